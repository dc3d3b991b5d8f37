section
-- ===== PART A: goes FIRST, ahead of the names: the tables' words, and 'selects' of the private methods out of them =====
/-- a private method of a class that the tables say can be made, by its rows of tables_1 -/
def lw_okq (q : MethodName × Nat) : Prop := (q.1.cls ≠ "java/lang/invoke/MethodHandle" ∧ q.1.cls ≠ "java/lang/invoke/VarHandle") ∧ Cond.instantiable q.1.cls q.2 ∈ tables_1 ∧ Cond.privateMethod q.1 ∈ tables_1 ∧ Cond.instanceMethod q.1 ∈ tables_1
theorem lw_p0 : lw_okq (⟨"CoastWatch$Lookouts", "addPost", "(III)I"⟩, 9) := ⟨⟨by decide +kernel, by decide +kernel⟩, List.mem_of_getElem? (i := 26) (by decide +kernel), List.mem_of_getElem? (i := 278) (by decide +kernel), List.mem_of_getElem? (i := 279) (by decide +kernel)⟩
theorem lw_p1 : lw_okq (⟨"CoastWatch$Lookouts", "addReach", "(II)I"⟩, 9) := ⟨⟨by decide +kernel, by decide +kernel⟩, List.mem_of_getElem? (i := 26) (by decide +kernel), List.mem_of_getElem? (i := 286) (by decide +kernel), List.mem_of_getElem? (i := 287) (by decide +kernel)⟩
theorem lw_p2 : lw_okq (⟨"CoastWatch$Lookouts", "hasPost", "(I)Z"⟩, 9) := ⟨⟨by decide +kernel, by decide +kernel⟩, List.mem_of_getElem? (i := 26) (by decide +kernel), List.mem_of_getElem? (i := 301) (by decide +kernel), List.mem_of_getElem? (i := 302) (by decide +kernel)⟩
theorem lw_p3 : lw_okq (⟨"CoastWatch$Lookouts", "isSeen", "(IIII)Z"⟩, 9) := ⟨⟨by decide +kernel, by decide +kernel⟩, List.mem_of_getElem? (i := 26) (by decide +kernel), List.mem_of_getElem? (i := 306) (by decide +kernel), List.mem_of_getElem? (i := 307) (by decide +kernel)⟩
theorem lw_p4 : lw_okq (⟨"CoastWatch$Lookouts", "fewestPosts", "(I)I"⟩, 9) := ⟨⟨by decide +kernel, by decide +kernel⟩, List.mem_of_getElem? (i := 26) (by decide +kernel), List.mem_of_getElem? (i := 314) (by decide +kernel), List.mem_of_getElem? (i := 315) (by decide +kernel)⟩
theorem lw_p5 : lw_okq (⟨"CoastWatch$Lookouts", "reachesSeen", "(I)I"⟩, 9) := ⟨⟨by decide +kernel, by decide +kernel⟩, List.mem_of_getElem? (i := 26) (by decide +kernel), List.mem_of_getElem? (i := 318) (by decide +kernel), List.mem_of_getElem? (i := 319) (by decide +kernel)⟩
theorem lw_p6 : lw_okq (⟨"CoastWatch$Lookouts", "reachesSeenBy", "(II)I"⟩, 9) := ⟨⟨by decide +kernel, by decide +kernel⟩, List.mem_of_getElem? (i := 26) (by decide +kernel), List.mem_of_getElem? (i := 322) (by decide +kernel), List.mem_of_getElem? (i := 323) (by decide +kernel)⟩
theorem lw_p7 : lw_okq (⟨"CoastWatch$Lookouts", "seenBySet", "(I)I"⟩, 9) := ⟨⟨by decide +kernel, by decide +kernel⟩, List.mem_of_getElem? (i := 26) (by decide +kernel), List.mem_of_getElem? (i := 333) (by decide +kernel), List.mem_of_getElem? (i := 334) (by decide +kernel)⟩
theorem lw_p8 : lw_okq (⟨"CoastWatch$Lookouts", "reachesUnseen", "(I)I"⟩, 9) := ⟨⟨by decide +kernel, by decide +kernel⟩, List.mem_of_getElem? (i := 26) (by decide +kernel), List.mem_of_getElem? (i := 341) (by decide +kernel), List.mem_of_getElem? (i := 342) (by decide +kernel)⟩
theorem lw_p9 : lw_okq (⟨"CoastWatch$Sightings", "add", "(III)I"⟩, 8) := ⟨⟨by decide +kernel, by decide +kernel⟩, List.mem_of_getElem? (i := 69) (by decide +kernel), List.mem_of_getElem? (i := 352) (by decide +kernel), List.mem_of_getElem? (i := 353) (by decide +kernel)⟩
theorem lw_p10 : lw_okq (⟨"CoastWatch$Sightings", "setEdges", "(IIIII)V"⟩, 8) := ⟨⟨by decide +kernel, by decide +kernel⟩, List.mem_of_getElem? (i := 69) (by decide +kernel), List.mem_of_getElem? (i := 356) (by decide +kernel), List.mem_of_getElem? (i := 357) (by decide +kernel)⟩
theorem lw_p11 : lw_okq (⟨"CoastWatch", "meet", "(II)I"⟩, 7) := ⟨⟨by decide +kernel, by decide +kernel⟩, List.mem_of_getElem? (i := 18) (by decide +kernel), List.mem_of_getElem? (i := 364) (by decide +kernel), List.mem_of_getElem? (i := 365) (by decide +kernel)⟩
theorem lw_p12 : lw_okq (⟨"CoastWatch$Sightings", "has", "(I)Z"⟩, 8) := ⟨⟨by decide +kernel, by decide +kernel⟩, List.mem_of_getElem? (i := 69) (by decide +kernel), List.mem_of_getElem? (i := 368) (by decide +kernel), List.mem_of_getElem? (i := 369) (by decide +kernel)⟩
theorem lw_p13 : lw_okq (⟨"CoastWatch$Sightings", "canMeet", "(II)Z"⟩, 8) := ⟨⟨by decide +kernel, by decide +kernel⟩, List.mem_of_getElem? (i := 69) (by decide +kernel), List.mem_of_getElem? (i := 373) (by decide +kernel), List.mem_of_getElem? (i := 374) (by decide +kernel)⟩
theorem lw_p14 : lw_okq (⟨"CoastWatch$Sightings", "putHalfPlanes", "(IILCoastWatch$Shape;)V"⟩, 8) := ⟨⟨by decide +kernel, by decide +kernel⟩, List.mem_of_getElem? (i := 69) (by decide +kernel), List.mem_of_getElem? (i := 377) (by decide +kernel), List.mem_of_getElem? (i := 378) (by decide +kernel)⟩
theorem lw_p15 : lw_okq (⟨"CoastWatch$Shape", "putLeftSide", "(IIIII)V"⟩, 10) := ⟨⟨by decide +kernel, by decide +kernel⟩, List.mem_of_getElem? (i := 102) (by decide +kernel), List.mem_of_getElem? (i := 381) (by decide +kernel), List.mem_of_getElem? (i := 382) (by decide +kernel)⟩
def lw_privs_1 : List (MethodName × Nat) := [(⟨"CoastWatch$Lookouts", "addPost", "(III)I"⟩, 9), (⟨"CoastWatch$Lookouts", "addReach", "(II)I"⟩, 9), (⟨"CoastWatch$Lookouts", "hasPost", "(I)Z"⟩, 9), (⟨"CoastWatch$Lookouts", "isSeen", "(IIII)Z"⟩, 9), (⟨"CoastWatch$Lookouts", "fewestPosts", "(I)I"⟩, 9), (⟨"CoastWatch$Lookouts", "reachesSeen", "(I)I"⟩, 9), (⟨"CoastWatch$Lookouts", "reachesSeenBy", "(II)I"⟩, 9), (⟨"CoastWatch$Lookouts", "seenBySet", "(I)I"⟩, 9), (⟨"CoastWatch$Lookouts", "reachesUnseen", "(I)I"⟩, 9), (⟨"CoastWatch$Sightings", "add", "(III)I"⟩, 8), (⟨"CoastWatch$Sightings", "setEdges", "(IIIII)V"⟩, 8), (⟨"CoastWatch", "meet", "(II)I"⟩, 7), (⟨"CoastWatch$Sightings", "has", "(I)Z"⟩, 8), (⟨"CoastWatch$Sightings", "canMeet", "(II)Z"⟩, 8), (⟨"CoastWatch$Sightings", "putHalfPlanes", "(IILCoastWatch$Shape;)V"⟩, 8), (⟨"CoastWatch$Shape", "putLeftSide", "(IIIII)V"⟩, 10)]
theorem lw_r1 : ∀ q ∈ lw_privs_1, lw_okq q := List.forall_mem_cons.mpr ⟨lw_p0, List.forall_mem_cons.mpr ⟨lw_p1, List.forall_mem_cons.mpr ⟨lw_p2, List.forall_mem_cons.mpr ⟨lw_p3, List.forall_mem_cons.mpr ⟨lw_p4, List.forall_mem_cons.mpr ⟨lw_p5, List.forall_mem_cons.mpr ⟨lw_p6, List.forall_mem_cons.mpr ⟨lw_p7, List.forall_mem_cons.mpr ⟨lw_p8, List.forall_mem_cons.mpr ⟨lw_p9, List.forall_mem_cons.mpr ⟨lw_p10, List.forall_mem_cons.mpr ⟨lw_p11, List.forall_mem_cons.mpr ⟨lw_p12, List.forall_mem_cons.mpr ⟨lw_p13, List.forall_mem_cons.mpr ⟨lw_p14, List.forall_mem_cons.mpr ⟨lw_p15, fun _ h => absurd h List.not_mem_nil⟩⟩⟩⟩⟩⟩⟩⟩⟩⟩⟩⟩⟩⟩⟩⟩
theorem lw_p16 : lw_okq (⟨"CoastWatch$Shape", "putEdge", "(III)V"⟩, 10) := ⟨⟨by decide +kernel, by decide +kernel⟩, List.mem_of_getElem? (i := 102) (by decide +kernel), List.mem_of_getElem? (i := 385) (by decide +kernel), List.mem_of_getElem? (i := 386) (by decide +kernel)⟩
theorem lw_p17 : lw_okq (⟨"CoastWatch$Shape", "findCorners", "()V"⟩, 10) := ⟨⟨by decide +kernel, by decide +kernel⟩, List.mem_of_getElem? (i := 102) (by decide +kernel), List.mem_of_getElem? (i := 389) (by decide +kernel), List.mem_of_getElem? (i := 390) (by decide +kernel)⟩
theorem lw_p18 : lw_okq (⟨"CoastWatch$Shape", "tryCrossing", "(II)V"⟩, 10) := ⟨⟨by decide +kernel, by decide +kernel⟩, List.mem_of_getElem? (i := 102) (by decide +kernel), List.mem_of_getElem? (i := 393) (by decide +kernel), List.mem_of_getElem? (i := 394) (by decide +kernel)⟩
theorem lw_p19 : lw_okq (⟨"CoastWatch$Shape", "isInside", "(JJJ)Z"⟩, 10) := ⟨⟨by decide +kernel, by decide +kernel⟩, List.mem_of_getElem? (i := 102) (by decide +kernel), List.mem_of_getElem? (i := 397) (by decide +kernel), List.mem_of_getElem? (i := 398) (by decide +kernel)⟩
theorem lw_p20 : lw_okq (⟨"CoastWatch$Shape", "insert", "(JJJ)V"⟩, 10) := ⟨⟨by decide +kernel, by decide +kernel⟩, List.mem_of_getElem? (i := 102) (by decide +kernel), List.mem_of_getElem? (i := 401) (by decide +kernel), List.mem_of_getElem? (i := 402) (by decide +kernel)⟩
theorem lw_p21 : lw_okq (⟨"CoastWatch$Shape", "order", "(IJJJ)I"⟩, 10) := ⟨⟨by decide +kernel, by decide +kernel⟩, List.mem_of_getElem? (i := 102) (by decide +kernel), List.mem_of_getElem? (i := 405) (by decide +kernel), List.mem_of_getElem? (i := 406) (by decide +kernel)⟩
theorem lw_p22 : lw_okq (⟨"CoastWatch$Shape", "kind", "()I"⟩, 10) := ⟨⟨by decide +kernel, by decide +kernel⟩, List.mem_of_getElem? (i := 102) (by decide +kernel), List.mem_of_getElem? (i := 421) (by decide +kernel), List.mem_of_getElem? (i := 422) (by decide +kernel)⟩
theorem lw_p23 : lw_okq (⟨"CoastWatch$Shape", "isEndless", "()Z"⟩, 10) := ⟨⟨by decide +kernel, by decide +kernel⟩, List.mem_of_getElem? (i := 102) (by decide +kernel), List.mem_of_getElem? (i := 425) (by decide +kernel), List.mem_of_getElem? (i := 426) (by decide +kernel)⟩
theorem lw_p24 : lw_okq (⟨"CoastWatch$Shape", "runsInside", "(JJ)Z"⟩, 10) := ⟨⟨by decide +kernel, by decide +kernel⟩, List.mem_of_getElem? (i := 102) (by decide +kernel), List.mem_of_getElem? (i := 429) (by decide +kernel), List.mem_of_getElem? (i := 430) (by decide +kernel)⟩
theorem lw_p25 : lw_okq (⟨"CoastWatch$Plots", "takes", "(II)Z"⟩, 12) := ⟨⟨by decide +kernel, by decide +kernel⟩, List.mem_of_getElem? (i := 141) (by decide +kernel), List.mem_of_getElem? (i := 441) (by decide +kernel), List.mem_of_getElem? (i := 442) (by decide +kernel)⟩
theorem lw_p26 : lw_okq (⟨"CoastWatch$Plots", "add", "(IIILCoastWatch$Shape;)I"⟩, 12) := ⟨⟨by decide +kernel, by decide +kernel⟩, List.mem_of_getElem? (i := 141) (by decide +kernel), List.mem_of_getElem? (i := 445) (by decide +kernel), List.mem_of_getElem? (i := 446) (by decide +kernel)⟩
theorem lw_p27 : lw_okq (⟨"CoastWatch$Shape", "boxSide", "(I)I"⟩, 10) := ⟨⟨by decide +kernel, by decide +kernel⟩, List.mem_of_getElem? (i := 102) (by decide +kernel), List.mem_of_getElem? (i := 449) (by decide +kernel), List.mem_of_getElem? (i := 450) (by decide +kernel)⟩
theorem lw_p28 : lw_okq (⟨"CoastWatch$Shape", "least", "([J[J)I"⟩, 10) := ⟨⟨by decide +kernel, by decide +kernel⟩, List.mem_of_getElem? (i := 102) (by decide +kernel), List.mem_of_getElem? (i := 453) (by decide +kernel), List.mem_of_getElem? (i := 454) (by decide +kernel)⟩
theorem lw_p29 : lw_okq (⟨"CoastWatch$Shape", "greatest", "([J[J)I"⟩, 10) := ⟨⟨by decide +kernel, by decide +kernel⟩, List.mem_of_getElem? (i := 102) (by decide +kernel), List.mem_of_getElem? (i := 467) (by decide +kernel), List.mem_of_getElem? (i := 468) (by decide +kernel)⟩
theorem lw_p30 : lw_okq (⟨"CoastWatch$Plots", "nearestTrack", "(I)I"⟩, 12) := ⟨⟨by decide +kernel, by decide +kernel⟩, List.mem_of_getElem? (i := 141) (by decide +kernel), List.mem_of_getElem? (i := 475) (by decide +kernel), List.mem_of_getElem? (i := 476) (by decide +kernel)⟩
theorem lw_p31 : lw_okq (⟨"CoastWatch$Plots", "squaredDistance", "(II)J"⟩, 12) := ⟨⟨by decide +kernel, by decide +kernel⟩, List.mem_of_getElem? (i := 141) (by decide +kernel), List.mem_of_getElem? (i := 479) (by decide +kernel), List.mem_of_getElem? (i := 480) (by decide +kernel)⟩
def lw_privs_2 : List (MethodName × Nat) := [(⟨"CoastWatch$Shape", "putEdge", "(III)V"⟩, 10), (⟨"CoastWatch$Shape", "findCorners", "()V"⟩, 10), (⟨"CoastWatch$Shape", "tryCrossing", "(II)V"⟩, 10), (⟨"CoastWatch$Shape", "isInside", "(JJJ)Z"⟩, 10), (⟨"CoastWatch$Shape", "insert", "(JJJ)V"⟩, 10), (⟨"CoastWatch$Shape", "order", "(IJJJ)I"⟩, 10), (⟨"CoastWatch$Shape", "kind", "()I"⟩, 10), (⟨"CoastWatch$Shape", "isEndless", "()Z"⟩, 10), (⟨"CoastWatch$Shape", "runsInside", "(JJ)Z"⟩, 10), (⟨"CoastWatch$Plots", "takes", "(II)Z"⟩, 12), (⟨"CoastWatch$Plots", "add", "(IIILCoastWatch$Shape;)I"⟩, 12), (⟨"CoastWatch$Shape", "boxSide", "(I)I"⟩, 10), (⟨"CoastWatch$Shape", "least", "([J[J)I"⟩, 10), (⟨"CoastWatch$Shape", "greatest", "([J[J)I"⟩, 10), (⟨"CoastWatch$Plots", "nearestTrack", "(I)I"⟩, 12), (⟨"CoastWatch$Plots", "squaredDistance", "(II)J"⟩, 12)]
theorem lw_r2 : ∀ q ∈ lw_privs_2, lw_okq q := List.forall_mem_cons.mpr ⟨lw_p16, List.forall_mem_cons.mpr ⟨lw_p17, List.forall_mem_cons.mpr ⟨lw_p18, List.forall_mem_cons.mpr ⟨lw_p19, List.forall_mem_cons.mpr ⟨lw_p20, List.forall_mem_cons.mpr ⟨lw_p21, List.forall_mem_cons.mpr ⟨lw_p22, List.forall_mem_cons.mpr ⟨lw_p23, List.forall_mem_cons.mpr ⟨lw_p24, List.forall_mem_cons.mpr ⟨lw_p25, List.forall_mem_cons.mpr ⟨lw_p26, List.forall_mem_cons.mpr ⟨lw_p27, List.forall_mem_cons.mpr ⟨lw_p28, List.forall_mem_cons.mpr ⟨lw_p29, List.forall_mem_cons.mpr ⟨lw_p30, List.forall_mem_cons.mpr ⟨lw_p31, fun _ h => absurd h List.not_mem_nil⟩⟩⟩⟩⟩⟩⟩⟩⟩⟩⟩⟩⟩⟩⟩⟩
theorem lw_p32 : lw_okq (⟨"CoastWatch$Plots", "partOf", "(II)I"⟩, 12) := ⟨⟨by decide +kernel, by decide +kernel⟩, List.mem_of_getElem? (i := 141) (by decide +kernel), List.mem_of_getElem? (i := 494) (by decide +kernel), List.mem_of_getElem? (i := 495) (by decide +kernel)⟩
theorem lw_p33 : lw_okq (⟨"CoastWatch$Boats", "takesPlan", "(I)Z"⟩, 8) := ⟨⟨by decide +kernel, by decide +kernel⟩, List.mem_of_getElem? (i := 187) (by decide +kernel), List.mem_of_getElem? (i := 506) (by decide +kernel), List.mem_of_getElem? (i := 507) (by decide +kernel)⟩
theorem lw_p34 : lw_okq (⟨"CoastWatch$Boats", "hasBoat", "(I)Z"⟩, 8) := ⟨⟨by decide +kernel, by decide +kernel⟩, List.mem_of_getElem? (i := 187) (by decide +kernel), List.mem_of_getElem? (i := 510) (by decide +kernel), List.mem_of_getElem? (i := 511) (by decide +kernel)⟩
theorem lw_p35 : lw_okq (⟨"CoastWatch$Boats", "isIn", "(I)Z"⟩, 8) := ⟨⟨by decide +kernel, by decide +kernel⟩, List.mem_of_getElem? (i := 187) (by decide +kernel), List.mem_of_getElem? (i := 515) (by decide +kernel), List.mem_of_getElem? (i := 516) (by decide +kernel)⟩
theorem lw_p36 : lw_okq (⟨"CoastWatch$Boats", "addPlan", "(IIII)V"⟩, 8) := ⟨⟨by decide +kernel, by decide +kernel⟩, List.mem_of_getElem? (i := 187) (by decide +kernel), List.mem_of_getElem? (i := 519) (by decide +kernel), List.mem_of_getElem? (i := 520) (by decide +kernel)⟩
theorem lw_p37 : lw_okq (⟨"CoastWatch$Boats", "stateOf", "(III)I"⟩, 8) := ⟨⟨by decide +kernel, by decide +kernel⟩, List.mem_of_getElem? (i := 187) (by decide +kernel), List.mem_of_getElem? (i := 533) (by decide +kernel), List.mem_of_getElem? (i := 534) (by decide +kernel)⟩
theorem lw_p38 : lw_okq (⟨"CoastWatch$Boats", "planKnown", "(II)I"⟩, 8) := ⟨⟨by decide +kernel, by decide +kernel⟩, List.mem_of_getElem? (i := 187) (by decide +kernel), List.mem_of_getElem? (i := 537) (by decide +kernel), List.mem_of_getElem? (i := 538) (by decide +kernel)⟩
theorem lw_p39 : lw_okq (⟨"CoastWatch$CallLog", "writeMinutes", "(IILCoastWatch$Boats;)V"⟩, 5) := ⟨⟨by decide +kernel, by decide +kernel⟩, List.mem_of_getElem? (i := 221) (by decide +kernel), List.mem_of_getElem? (i := 549) (by decide +kernel), List.mem_of_getElem? (i := 550) (by decide +kernel)⟩
theorem lw_p40 : lw_okq (⟨"CoastWatch$CallLog", "nextCall", "(ILCoastWatch$Boats;)I"⟩, 5) := ⟨⟨by decide +kernel, by decide +kernel⟩, List.mem_of_getElem? (i := 221) (by decide +kernel), List.mem_of_getElem? (i := 553) (by decide +kernel), List.mem_of_getElem? (i := 554) (by decide +kernel)⟩
theorem lw_p41 : lw_okq (⟨"CoastWatch$CallLog", "callMinute", "(IILCoastWatch$Boats;)I"⟩, 5) := ⟨⟨by decide +kernel, by decide +kernel⟩, List.mem_of_getElem? (i := 221) (by decide +kernel), List.mem_of_getElem? (i := 557) (by decide +kernel), List.mem_of_getElem? (i := 558) (by decide +kernel)⟩
theorem lw_p42 : lw_okq (⟨"CoastWatch$Boats", "firstOverdue", "(I)I"⟩, 8) := ⟨⟨by decide +kernel, by decide +kernel⟩, List.mem_of_getElem? (i := 187) (by decide +kernel), List.mem_of_getElem? (i := 562) (by decide +kernel), List.mem_of_getElem? (i := 563) (by decide +kernel)⟩
theorem lw_p43 : lw_okq (⟨"CoastWatch$CallLog", "writeMinute", "(ILCoastWatch$Boats;)V"⟩, 5) := ⟨⟨by decide +kernel, by decide +kernel⟩, List.mem_of_getElem? (i := 221) (by decide +kernel), List.mem_of_getElem? (i := 566) (by decide +kernel), List.mem_of_getElem? (i := 567) (by decide +kernel)⟩
theorem lw_p44 : lw_okq (⟨"CoastWatch$CallLog", "writeLine", "(III)V"⟩, 5) := ⟨⟨by decide +kernel, by decide +kernel⟩, List.mem_of_getElem? (i := 221) (by decide +kernel), List.mem_of_getElem? (i := 570) (by decide +kernel), List.mem_of_getElem? (i := 571) (by decide +kernel)⟩
theorem lw_p45 : lw_okq (⟨"CoastWatch$CallLog", "partOf", "(II)I"⟩, 5) := ⟨⟨by decide +kernel, by decide +kernel⟩, List.mem_of_getElem? (i := 221) (by decide +kernel), List.mem_of_getElem? (i := 578) (by decide +kernel), List.mem_of_getElem? (i := 579) (by decide +kernel)⟩
theorem lw_p46 : lw_okq (⟨"CoastWatch$Boats", "overdueAt", "(I)I"⟩, 8) := ⟨⟨by decide +kernel, by decide +kernel⟩, List.mem_of_getElem? (i := 187) (by decide +kernel), List.mem_of_getElem? (i := 590) (by decide +kernel), List.mem_of_getElem? (i := 591) (by decide +kernel)⟩
theorem lw_p47 : lw_okq (⟨"java/lang/Throwable", "fillInStackTrace", "(I)Ljava/lang/Throwable;"⟩, 6) := ⟨⟨by decide +kernel, by decide +kernel⟩, List.mem_of_getElem? (i := 639) (by decide +kernel), List.mem_of_getElem? (i := 637) (by decide +kernel), List.mem_of_getElem? (i := 638) (by decide +kernel)⟩
def lw_privs_3 : List (MethodName × Nat) := [(⟨"CoastWatch$Plots", "partOf", "(II)I"⟩, 12), (⟨"CoastWatch$Boats", "takesPlan", "(I)Z"⟩, 8), (⟨"CoastWatch$Boats", "hasBoat", "(I)Z"⟩, 8), (⟨"CoastWatch$Boats", "isIn", "(I)Z"⟩, 8), (⟨"CoastWatch$Boats", "addPlan", "(IIII)V"⟩, 8), (⟨"CoastWatch$Boats", "stateOf", "(III)I"⟩, 8), (⟨"CoastWatch$Boats", "planKnown", "(II)I"⟩, 8), (⟨"CoastWatch$CallLog", "writeMinutes", "(IILCoastWatch$Boats;)V"⟩, 5), (⟨"CoastWatch$CallLog", "nextCall", "(ILCoastWatch$Boats;)I"⟩, 5), (⟨"CoastWatch$CallLog", "callMinute", "(IILCoastWatch$Boats;)I"⟩, 5), (⟨"CoastWatch$Boats", "firstOverdue", "(I)I"⟩, 8), (⟨"CoastWatch$CallLog", "writeMinute", "(ILCoastWatch$Boats;)V"⟩, 5), (⟨"CoastWatch$CallLog", "writeLine", "(III)V"⟩, 5), (⟨"CoastWatch$CallLog", "partOf", "(II)I"⟩, 5), (⟨"CoastWatch$Boats", "overdueAt", "(I)I"⟩, 8), (⟨"java/lang/Throwable", "fillInStackTrace", "(I)Ljava/lang/Throwable;"⟩, 6)]
theorem lw_r3 : ∀ q ∈ lw_privs_3, lw_okq q := List.forall_mem_cons.mpr ⟨lw_p32, List.forall_mem_cons.mpr ⟨lw_p33, List.forall_mem_cons.mpr ⟨lw_p34, List.forall_mem_cons.mpr ⟨lw_p35, List.forall_mem_cons.mpr ⟨lw_p36, List.forall_mem_cons.mpr ⟨lw_p37, List.forall_mem_cons.mpr ⟨lw_p38, List.forall_mem_cons.mpr ⟨lw_p39, List.forall_mem_cons.mpr ⟨lw_p40, List.forall_mem_cons.mpr ⟨lw_p41, List.forall_mem_cons.mpr ⟨lw_p42, List.forall_mem_cons.mpr ⟨lw_p43, List.forall_mem_cons.mpr ⟨lw_p44, List.forall_mem_cons.mpr ⟨lw_p45, List.forall_mem_cons.mpr ⟨lw_p46, List.forall_mem_cons.mpr ⟨lw_p47, fun _ h => absurd h List.not_mem_nil⟩⟩⟩⟩⟩⟩⟩⟩⟩⟩⟩⟩⟩⟩⟩⟩
theorem lw_p48 : lw_okq (⟨"CoastWatch$Shape", "cornerPart", "(II)J"⟩, 10) := ⟨⟨by decide +kernel, by decide +kernel⟩, List.mem_of_getElem? (i := 102) (by decide +kernel), List.mem_of_getElem? (i := 664) (by decide +kernel), List.mem_of_getElem? (i := 665) (by decide +kernel)⟩
theorem lw_p49 : lw_okq (⟨"CoastWatchModel", "seesAt", "(IIII)Z"⟩, 35) := ⟨⟨by decide +kernel, by decide +kernel⟩, List.mem_of_getElem? (i := 676) (by decide +kernel), List.mem_of_getElem? (i := 814) (by decide +kernel), List.mem_of_getElem? (i := 815) (by decide +kernel)⟩
theorem lw_p50 : lw_okq (⟨"CoastWatchModel", "seenBy", "(II)I"⟩, 35) := ⟨⟨by decide +kernel, by decide +kernel⟩, List.mem_of_getElem? (i := 676) (by decide +kernel), List.mem_of_getElem? (i := 822) (by decide +kernel), List.mem_of_getElem? (i := 823) (by decide +kernel)⟩
theorem lw_p51 : lw_okq (⟨"CoastWatchModel", "meets", "(II)I"⟩, 35) := ⟨⟨by decide +kernel, by decide +kernel⟩, List.mem_of_getElem? (i := 676) (by decide +kernel), List.mem_of_getElem? (i := 841) (by decide +kernel), List.mem_of_getElem? (i := 842) (by decide +kernel)⟩
theorem lw_p52 : lw_okq (⟨"CoastWatchModel", "isPair", "(II)Z"⟩, 35) := ⟨⟨by decide +kernel, by decide +kernel⟩, List.mem_of_getElem? (i := 676) (by decide +kernel), List.mem_of_getElem? (i := 845) (by decide +kernel), List.mem_of_getElem? (i := 846) (by decide +kernel)⟩
theorem lw_p53 : lw_okq (⟨"CoastWatchModel", "of", "(II)I"⟩, 35) := ⟨⟨by decide +kernel, by decide +kernel⟩, List.mem_of_getElem? (i := 676) (by decide +kernel), List.mem_of_getElem? (i := 849) (by decide +kernel), List.mem_of_getElem? (i := 850) (by decide +kernel)⟩
theorem lw_p54 : lw_okq (⟨"CoastWatchModel", "bounds", "(II)V"⟩, 35) := ⟨⟨by decide +kernel, by decide +kernel⟩, List.mem_of_getElem? (i := 676) (by decide +kernel), List.mem_of_getElem? (i := 853) (by decide +kernel), List.mem_of_getElem? (i := 854) (by decide +kernel)⟩
theorem lw_p55 : lw_okq (⟨"CoastWatchModel", "cross", "(II)V"⟩, 35) := ⟨⟨by decide +kernel, by decide +kernel⟩, List.mem_of_getElem? (i := 676) (by decide +kernel), List.mem_of_getElem? (i := 858) (by decide +kernel), List.mem_of_getElem? (i := 859) (by decide +kernel)⟩
theorem lw_p56 : lw_okq (⟨"CoastWatchModel", "isWithin", "(JJJZ)Z"⟩, 35) := ⟨⟨by decide +kernel, by decide +kernel⟩, List.mem_of_getElem? (i := 676) (by decide +kernel), List.mem_of_getElem? (i := 862) (by decide +kernel), List.mem_of_getElem? (i := 863) (by decide +kernel)⟩
theorem lw_p57 : lw_okq (⟨"CoastWatchModel", "compare", "(IJJJ)I"⟩, 35) := ⟨⟨by decide +kernel, by decide +kernel⟩, List.mem_of_getElem? (i := 676) (by decide +kernel), List.mem_of_getElem? (i := 866) (by decide +kernel), List.mem_of_getElem? (i := 867) (by decide +kernel)⟩
theorem lw_p58 : lw_okq (⟨"CoastWatchModel", "boxOf", "(II)V"⟩, 35) := ⟨⟨by decide +kernel, by decide +kernel⟩, List.mem_of_getElem? (i := 676) (by decide +kernel), List.mem_of_getElem? (i := 887) (by decide +kernel), List.mem_of_getElem? (i := 888) (by decide +kernel)⟩
theorem lw_p59 : lw_okq (⟨"CoastWatchModel", "latest", "(I)I"⟩, 35) := ⟨⟨by decide +kernel, by decide +kernel⟩, List.mem_of_getElem? (i := 676) (by decide +kernel), List.mem_of_getElem? (i := 898) (by decide +kernel), List.mem_of_getElem? (i := 899) (by decide +kernel)⟩
theorem lw_p60 : lw_okq (⟨"CoastWatchModel", "stands", "(III)I"⟩, 35) := ⟨⟨by decide +kernel, by decide +kernel⟩, List.mem_of_getElem? (i := 676) (by decide +kernel), List.mem_of_getElem? (i := 926) (by decide +kernel), List.mem_of_getElem? (i := 927) (by decide +kernel)⟩
theorem lw_p61 : lw_okq (⟨"CoastWatchModel", "lastPlan", "(II)I"⟩, 35) := ⟨⟨by decide +kernel, by decide +kernel⟩, List.mem_of_getElem? (i := 676) (by decide +kernel), List.mem_of_getElem? (i := 930) (by decide +kernel), List.mem_of_getElem? (i := 931) (by decide +kernel)⟩
theorem lw_p62 : lw_okq (⟨"CoastWatchModel", "ofPlan", "(II)I"⟩, 35) := ⟨⟨by decide +kernel, by decide +kernel⟩, List.mem_of_getElem? (i := 676) (by decide +kernel), List.mem_of_getElem? (i := 934) (by decide +kernel), List.mem_of_getElem? (i := 935) (by decide +kernel)⟩
theorem lw_p63 : lw_okq (⟨"CoastWatchModel", "overdue", "(I)V"⟩, 35) := ⟨⟨by decide +kernel, by decide +kernel⟩, List.mem_of_getElem? (i := 676) (by decide +kernel), List.mem_of_getElem? (i := 946) (by decide +kernel), List.mem_of_getElem? (i := 947) (by decide +kernel)⟩
def lw_privs_4 : List (MethodName × Nat) := [(⟨"CoastWatch$Shape", "cornerPart", "(II)J"⟩, 10), (⟨"CoastWatchModel", "seesAt", "(IIII)Z"⟩, 35), (⟨"CoastWatchModel", "seenBy", "(II)I"⟩, 35), (⟨"CoastWatchModel", "meets", "(II)I"⟩, 35), (⟨"CoastWatchModel", "isPair", "(II)Z"⟩, 35), (⟨"CoastWatchModel", "of", "(II)I"⟩, 35), (⟨"CoastWatchModel", "bounds", "(II)V"⟩, 35), (⟨"CoastWatchModel", "cross", "(II)V"⟩, 35), (⟨"CoastWatchModel", "isWithin", "(JJJZ)Z"⟩, 35), (⟨"CoastWatchModel", "compare", "(IJJJ)I"⟩, 35), (⟨"CoastWatchModel", "boxOf", "(II)V"⟩, 35), (⟨"CoastWatchModel", "latest", "(I)I"⟩, 35), (⟨"CoastWatchModel", "stands", "(III)I"⟩, 35), (⟨"CoastWatchModel", "lastPlan", "(II)I"⟩, 35), (⟨"CoastWatchModel", "ofPlan", "(II)I"⟩, 35), (⟨"CoastWatchModel", "overdue", "(I)V"⟩, 35)]
theorem lw_r4 : ∀ q ∈ lw_privs_4, lw_okq q := List.forall_mem_cons.mpr ⟨lw_p48, List.forall_mem_cons.mpr ⟨lw_p49, List.forall_mem_cons.mpr ⟨lw_p50, List.forall_mem_cons.mpr ⟨lw_p51, List.forall_mem_cons.mpr ⟨lw_p52, List.forall_mem_cons.mpr ⟨lw_p53, List.forall_mem_cons.mpr ⟨lw_p54, List.forall_mem_cons.mpr ⟨lw_p55, List.forall_mem_cons.mpr ⟨lw_p56, List.forall_mem_cons.mpr ⟨lw_p57, List.forall_mem_cons.mpr ⟨lw_p58, List.forall_mem_cons.mpr ⟨lw_p59, List.forall_mem_cons.mpr ⟨lw_p60, List.forall_mem_cons.mpr ⟨lw_p61, List.forall_mem_cons.mpr ⟨lw_p62, List.forall_mem_cons.mpr ⟨lw_p63, fun _ h => absurd h List.not_mem_nil⟩⟩⟩⟩⟩⟩⟩⟩⟩⟩⟩⟩⟩⟩⟩⟩
def lw_privs : List (MethodName × Nat) := lw_privs_1 ++ (lw_privs_2 ++ (lw_privs_3 ++ (lw_privs_4)))
def lw_tbl : List Cond := k2_sels lw_privs ++ tables_1
theorem lw_privs_ok : ∀ q ∈ lw_privs, lw_okq q := by
  show ∀ q ∈ lw_privs_1 ++ (lw_privs_2 ++ (lw_privs_3 ++ (lw_privs_4))), lw_okq q
  exact List.forall_mem_append.mpr ⟨lw_r1, List.forall_mem_append.mpr ⟨lw_r2, List.forall_mem_append.mpr ⟨lw_r3, lw_r4⟩⟩⟩
end
section
/-! ===== BEGIN printed: names, fields, word lists, decode rows ===== -/
def RX0 : String := "CoastWatch$Boats"
def TX0 : u_T := fun k => match k with
  | 0 => ("CoastWatch$Boats", "planBoat", "[I", true)
  | 1 => ("CoastWatch$Boats", "planLeaving", "[I", true)
  | 2 => ("CoastWatch$Boats", "planEnd", "[I", true)
  | 3 => ("CoastWatch$Boats", "planTold", "[I", true)
  | 4 => ("CoastWatch$Boats", "lastPlan", "[I", true)
  | 5 => ("CoastWatch$Boats", "inMinute", "[I", true)
  | 6 => ("CoastWatch$Boats", "plans", "I", false)
  | _ => ("CoastWatch$Boats", "size", "I", false)
def tyX0 : Nat → FieldType := fun k => match k with
  | 0 => .array .int
  | 1 => .array .int
  | 2 => .array .int
  | 3 => .array .int
  | 4 => .array .int
  | 5 => .array .int
  | 6 => .int
  | _ => .int
abbrev wsX00 : List Cond := u_ws RX0 TX0 8
theorem nmX0 : ∀ a, a < 8 → ∀ b, b < 8 → a ≠ b → (TX0 a).2.1 ≠ (TX0 b).2.1 := by decide +kernel
theorem tyX0_ok : ∀ k, k < 8 → parseFieldDescriptor (TX0 k).2.2.1 = some (tyX0 k) := by decide +kernel
abbrev cX0_init : ByteArray := prog_2_method_1_code
def yX0_init : MethodName := ⟨RX0, "<init>", "()V"⟩
abbrev cX0_hasBoat : ByteArray := prog_2_method_2_code
def yX0_hasBoat : MethodName := ⟨RX0, "hasBoat", "(I)Z"⟩
abbrev cX0_isIn : ByteArray := prog_2_method_3_code
def yX0_isIn : MethodName := ⟨RX0, "isIn", "(I)Z"⟩
abbrev cX0_takesPlan : ByteArray := prog_2_method_4_code
def yX0_takesPlan : MethodName := ⟨RX0, "takesPlan", "(I)Z"⟩
abbrev cX0_addPlan : ByteArray := prog_2_method_5_code
def yX0_addPlan : MethodName := ⟨RX0, "addPlan", "(IIII)V"⟩
abbrev cX0_stateOf : ByteArray := prog_2_method_6_code
def yX0_stateOf : MethodName := ⟨RX0, "stateOf", "(III)I"⟩
abbrev cX0_planKnown : ByteArray := prog_2_method_7_code
def yX0_planKnown : MethodName := ⟨RX0, "planKnown", "(II)I"⟩
abbrev cX0_overdueAt : ByteArray := prog_2_method_8_code
def yX0_overdueAt : MethodName := ⟨RX0, "overdueAt", "(I)I"⟩
abbrev cX0_firstOverdue : ByteArray := prog_2_method_9_code
def yX0_firstOverdue : MethodName := ⟨RX0, "firstOverdue", "(I)I"⟩
def RX1 : String := "CoastWatch$CallLog"
def TX1 : u_T := fun k => match k with
  | 0 => ("CoastWatch$CallLog", "delay", "[I", true)
  | 1 => ("CoastWatch$CallLog", "lineBoat", "[I", true)
  | 2 => ("CoastWatch$CallLog", "lineRule", "[I", true)
  | 3 => ("CoastWatch$CallLog", "lineMinute", "[I", true)
  | _ => ("CoastWatch$CallLog", "written", "I", false)
def tyX1 : Nat → FieldType := fun k => match k with
  | 0 => .array .int
  | 1 => .array .int
  | 2 => .array .int
  | 3 => .array .int
  | _ => .int
abbrev wsX10 : List Cond := u_ws RX1 TX1 5
theorem nmX1 : ∀ a, a < 5 → ∀ b, b < 5 → a ≠ b → (TX1 a).2.1 ≠ (TX1 b).2.1 := by decide +kernel
theorem tyX1_ok : ∀ k, k < 5 → parseFieldDescriptor (TX1 k).2.2.1 = some (tyX1 k) := by decide +kernel
abbrev cX1_init : ByteArray := prog_3_method_1_code
def yX1_init : MethodName := ⟨RX1, "<init>", "()V"⟩
abbrev cX1_writeMinutes : ByteArray := prog_3_method_2_code
def yX1_writeMinutes : MethodName := ⟨RX1, "writeMinutes", "(IILCoastWatch$Boats;)V"⟩
abbrev cX1_nextCall : ByteArray := prog_3_method_3_code
def yX1_nextCall : MethodName := ⟨RX1, "nextCall", "(ILCoastWatch$Boats;)I"⟩
abbrev cX1_callMinute : ByteArray := prog_3_method_4_code
def yX1_callMinute : MethodName := ⟨RX1, "callMinute", "(IILCoastWatch$Boats;)I"⟩
abbrev cX1_writeMinute : ByteArray := prog_3_method_5_code
def yX1_writeMinute : MethodName := ⟨RX1, "writeMinute", "(ILCoastWatch$Boats;)V"⟩
abbrev cX1_writeLine : ByteArray := prog_3_method_6_code
def yX1_writeLine : MethodName := ⟨RX1, "writeLine", "(III)V"⟩
abbrev cX1_partOf : ByteArray := prog_3_method_7_code
def yX1_partOf : MethodName := ⟨RX1, "partOf", "(II)I"⟩
def RX2 : String := "CoastWatch$Lookouts"
def TX2 : u_T := fun k => match k with
  | 0 => ("CoastWatch$Lookouts", "postX", "[I", true)
  | 1 => ("CoastWatch$Lookouts", "postY", "[I", true)
  | 2 => ("CoastWatch$Lookouts", "height", "[I", true)
  | 3 => ("CoastWatch$Lookouts", "reachX", "[I", true)
  | 4 => ("CoastWatch$Lookouts", "reachY", "[I", true)
  | 5 => ("CoastWatch$Lookouts", "visibility", "[I", true)
  | 6 => ("CoastWatch$Lookouts", "seenByPost", "[I", true)
  | 7 => ("CoastWatch$Lookouts", "posts", "I", false)
  | _ => ("CoastWatch$Lookouts", "reaches", "I", false)
def tyX2 : Nat → FieldType := fun k => match k with
  | 0 => .array .int
  | 1 => .array .int
  | 2 => .array .int
  | 3 => .array .int
  | 4 => .array .int
  | 5 => .array .int
  | 6 => .array .int
  | 7 => .int
  | _ => .int
abbrev wsX20 : List Cond := u_ws RX2 TX2 9
theorem nmX2 : ∀ a, a < 9 → ∀ b, b < 9 → a ≠ b → (TX2 a).2.1 ≠ (TX2 b).2.1 := by decide +kernel
theorem tyX2_ok : ∀ k, k < 9 → parseFieldDescriptor (TX2 k).2.2.1 = some (tyX2 k) := by decide +kernel
abbrev cX2_init : ByteArray := prog_4_method_1_code
def yX2_init : MethodName := ⟨RX2, "<init>", "()V"⟩
abbrev cX2_addPost : ByteArray := prog_4_method_2_code
def yX2_addPost : MethodName := ⟨RX2, "addPost", "(III)I"⟩
abbrev cX2_addReach : ByteArray := prog_4_method_3_code
def yX2_addReach : MethodName := ⟨RX2, "addReach", "(II)I"⟩
abbrev cX2_hasPost : ByteArray := prog_4_method_4_code
def yX2_hasPost : MethodName := ⟨RX2, "hasPost", "(I)Z"⟩
abbrev cX2_isSeen : ByteArray := prog_4_method_5_code
def yX2_isSeen : MethodName := ⟨RX2, "isSeen", "(IIII)Z"⟩
abbrev cX2_reachesSeenBy : ByteArray := prog_4_method_6_code
def yX2_reachesSeenBy : MethodName := ⟨RX2, "reachesSeenBy", "(II)I"⟩
abbrev cX2_reachesSeen : ByteArray := prog_4_method_7_code
def yX2_reachesSeen : MethodName := ⟨RX2, "reachesSeen", "(I)I"⟩
abbrev cX2_reachesUnseen : ByteArray := prog_4_method_8_code
def yX2_reachesUnseen : MethodName := ⟨RX2, "reachesUnseen", "(I)I"⟩
abbrev cX2_fewestPosts : ByteArray := prog_4_method_9_code
def yX2_fewestPosts : MethodName := ⟨RX2, "fewestPosts", "(I)I"⟩
abbrev cX2_seenBySet : ByteArray := prog_4_method_10_code
def yX2_seenBySet : MethodName := ⟨RX2, "seenBySet", "(I)I"⟩
def RX3 : String := "CoastWatch$Plots"
def TX3 : u_T := fun k => match k with
  | 0 => ("CoastWatch$Plots", "first", "[I", true)
  | 1 => ("CoastWatch$Plots", "second", "[I", true)
  | 2 => ("CoastWatch$Plots", "minute", "[I", true)
  | 3 => ("CoastWatch$Plots", "trackOf", "[I", true)
  | 4 => ("CoastWatch$Plots", "left", "[I", true)
  | 5 => ("CoastWatch$Plots", "bottom", "[I", true)
  | 6 => ("CoastWatch$Plots", "right", "[I", true)
  | 7 => ("CoastWatch$Plots", "top", "[I", true)
  | 8 => ("CoastWatch$Plots", "latest", "[I", true)
  | 9 => ("CoastWatch$Plots", "size", "I", false)
  | 10 => ("CoastWatch$Plots", "tracks", "I", false)
  | _ => ("CoastWatch$Plots", "trackSpeed", "I", false)
def tyX3 : Nat → FieldType := fun k => match k with
  | 0 => .array .int
  | 1 => .array .int
  | 2 => .array .int
  | 3 => .array .int
  | 4 => .array .int
  | 5 => .array .int
  | 6 => .array .int
  | 7 => .array .int
  | 8 => .array .int
  | 9 => .int
  | 10 => .int
  | _ => .int
abbrev wsX30 : List Cond := u_ws RX3 TX3 12
theorem nmX3 : ∀ a, a < 12 → ∀ b, b < 12 → a ≠ b → (TX3 a).2.1 ≠ (TX3 b).2.1 := by decide +kernel
theorem tyX3_ok : ∀ k, k < 12 → parseFieldDescriptor (TX3 k).2.2.1 = some (tyX3 k) := by decide +kernel
abbrev cX3_init : ByteArray := prog_5_method_1_code
def yX3_init : MethodName := ⟨RX3, "<init>", "()V"⟩
abbrev cX3_takes : ByteArray := prog_5_method_2_code
def yX3_takes : MethodName := ⟨RX3, "takes", "(II)Z"⟩
abbrev cX3_add : ByteArray := prog_5_method_3_code
def yX3_add : MethodName := ⟨RX3, "add", "(IIILCoastWatch$Shape;)I"⟩
abbrev cX3_nearestTrack : ByteArray := prog_5_method_4_code
def yX3_nearestTrack : MethodName := ⟨RX3, "nearestTrack", "(I)I"⟩
abbrev cX3_squaredDistance : ByteArray := prog_5_method_5_code
def yX3_squaredDistance : MethodName := ⟨RX3, "squaredDistance", "(II)J"⟩
abbrev cX3_gap : ByteArray := prog_5_method_6_code
def yX3_gap : MethodName := ⟨RX3, "gap", "(IIII)J"⟩
abbrev cX3_partOf : ByteArray := prog_5_method_7_code
def yX3_partOf : MethodName := ⟨RX3, "partOf", "(II)I"⟩
def RX4 : String := "CoastWatch$Shape"
def TX4 : u_T := fun k => match k with
  | 0 => ("CoastWatch$Shape", "a", "[J", true)
  | 1 => ("CoastWatch$Shape", "b", "[J", true)
  | 2 => ("CoastWatch$Shape", "c", "[J", true)
  | 3 => ("CoastWatch$Shape", "edgeX", "[J", true)
  | 4 => ("CoastWatch$Shape", "edgeY", "[J", true)
  | 5 => ("CoastWatch$Shape", "topX", "[J", true)
  | 6 => ("CoastWatch$Shape", "lowX", "[J", true)
  | 7 => ("CoastWatch$Shape", "topY", "[J", true)
  | 8 => ("CoastWatch$Shape", "lowY", "[J", true)
  | _ => ("CoastWatch$Shape", "corners", "I", false)
def tyX4 : Nat → FieldType := fun k => match k with
  | 0 => .array .long
  | 1 => .array .long
  | 2 => .array .long
  | 3 => .array .long
  | 4 => .array .long
  | 5 => .array .long
  | 6 => .array .long
  | 7 => .array .long
  | 8 => .array .long
  | _ => .int
abbrev wsX40 : List Cond := u_ws RX4 TX4 10
theorem nmX4 : ∀ a, a < 10 → ∀ b, b < 10 → a ≠ b → (TX4 a).2.1 ≠ (TX4 b).2.1 := by decide +kernel
theorem tyX4_ok : ∀ k, k < 10 → parseFieldDescriptor (TX4 k).2.2.1 = some (tyX4 k) := by decide +kernel
abbrev cX4_init : ByteArray := prog_6_method_1_code
def yX4_init : MethodName := ⟨RX4, "<init>", "()V"⟩
abbrev cX4_putLeftSide : ByteArray := prog_6_method_2_code
def yX4_putLeftSide : MethodName := ⟨RX4, "putLeftSide", "(IIIII)V"⟩
abbrev cX4_putEdge : ByteArray := prog_6_method_3_code
def yX4_putEdge : MethodName := ⟨RX4, "putEdge", "(III)V"⟩
abbrev cX4_findCorners : ByteArray := prog_6_method_4_code
def yX4_findCorners : MethodName := ⟨RX4, "findCorners", "()V"⟩
abbrev cX4_tryCrossing : ByteArray := prog_6_method_5_code
def yX4_tryCrossing : MethodName := ⟨RX4, "tryCrossing", "(II)V"⟩
abbrev cX4_isInside : ByteArray := prog_6_method_6_code
def yX4_isInside : MethodName := ⟨RX4, "isInside", "(JJJ)Z"⟩
abbrev cX4_insert : ByteArray := prog_6_method_7_code
def yX4_insert : MethodName := ⟨RX4, "insert", "(JJJ)V"⟩
abbrev cX4_order : ByteArray := prog_6_method_8_code
def yX4_order : MethodName := ⟨RX4, "order", "(IJJJ)I"⟩
abbrev cX4_commonDivisor : ByteArray := prog_6_method_9_code
def yX4_commonDivisor : MethodName := ⟨RX4, "commonDivisor", "(JJ)J"⟩
abbrev cX4_over : ByteArray := prog_6_method_10_code
def yX4_over : MethodName := ⟨RX4, "over", "(JJ)J"⟩
abbrev cX4_kind : ByteArray := prog_6_method_11_code
def yX4_kind : MethodName := ⟨RX4, "kind", "()I"⟩
abbrev cX4_isEndless : ByteArray := prog_6_method_12_code
def yX4_isEndless : MethodName := ⟨RX4, "isEndless", "()Z"⟩
abbrev cX4_runsInside : ByteArray := prog_6_method_13_code
def yX4_runsInside : MethodName := ⟨RX4, "runsInside", "(JJ)Z"⟩
abbrev cX4_cornerPart : ByteArray := prog_6_method_14_code
def yX4_cornerPart : MethodName := ⟨RX4, "cornerPart", "(II)J"⟩
abbrev cX4_boxSide : ByteArray := prog_6_method_15_code
def yX4_boxSide : MethodName := ⟨RX4, "boxSide", "(I)I"⟩
abbrev cX4_least : ByteArray := prog_6_method_16_code
def yX4_least : MethodName := ⟨RX4, "least", "([J[J)I"⟩
abbrev cX4_greatest : ByteArray := prog_6_method_17_code
def yX4_greatest : MethodName := ⟨RX4, "greatest", "([J[J)I"⟩
abbrev cX4_floor : ByteArray := prog_6_method_18_code
def yX4_floor : MethodName := ⟨RX4, "floor", "(JJ)J"⟩
def RX5 : String := "CoastWatch$Sightings"
def TX5 : u_T := fun k => match k with
  | 0 => ("CoastWatch$Sightings", "fromX", "[I", true)
  | 1 => ("CoastWatch$Sightings", "fromY", "[I", true)
  | 2 => ("CoastWatch$Sightings", "minute", "[I", true)
  | 3 => ("CoastWatch$Sightings", "firstX", "[I", true)
  | 4 => ("CoastWatch$Sightings", "firstY", "[I", true)
  | 5 => ("CoastWatch$Sightings", "secondX", "[I", true)
  | 6 => ("CoastWatch$Sightings", "secondY", "[I", true)
  | _ => ("CoastWatch$Sightings", "size", "I", false)
def tyX5 : Nat → FieldType := fun k => match k with
  | 0 => .array .int
  | 1 => .array .int
  | 2 => .array .int
  | 3 => .array .int
  | 4 => .array .int
  | 5 => .array .int
  | 6 => .array .int
  | _ => .int
abbrev wsX50 : List Cond := u_ws RX5 TX5 8
theorem nmX5 : ∀ a, a < 8 → ∀ b, b < 8 → a ≠ b → (TX5 a).2.1 ≠ (TX5 b).2.1 := by decide +kernel
theorem tyX5_ok : ∀ k, k < 8 → parseFieldDescriptor (TX5 k).2.2.1 = some (tyX5 k) := by decide +kernel
abbrev cX5_init : ByteArray := prog_7_method_1_code
def yX5_init : MethodName := ⟨RX5, "<init>", "()V"⟩
abbrev cX5_add : ByteArray := prog_7_method_2_code
def yX5_add : MethodName := ⟨RX5, "add", "(III)I"⟩
abbrev cX5_setEdges : ByteArray := prog_7_method_3_code
def yX5_setEdges : MethodName := ⟨RX5, "setEdges", "(IIIII)V"⟩
abbrev cX5_has : ByteArray := prog_7_method_4_code
def yX5_has : MethodName := ⟨RX5, "has", "(I)Z"⟩
abbrev cX5_canMeet : ByteArray := prog_7_method_5_code
def yX5_canMeet : MethodName := ⟨RX5, "canMeet", "(II)Z"⟩
abbrev cX5_putHalfPlanes : ByteArray := prog_7_method_6_code
def yX5_putHalfPlanes : MethodName := ⟨RX5, "putHalfPlanes", "(IILCoastWatch$Shape;)V"⟩
def RX6 : String := "CoastWatch"
def TX6 : u_T := fun k => match k with
  | 0 => ("CoastWatch", "lookouts", "LCoastWatch$Lookouts;", true)
  | 1 => ("CoastWatch", "sightings", "LCoastWatch$Sightings;", true)
  | 2 => ("CoastWatch", "shape", "LCoastWatch$Shape;", true)
  | 3 => ("CoastWatch", "plots", "LCoastWatch$Plots;", true)
  | 4 => ("CoastWatch", "boats", "LCoastWatch$Boats;", true)
  | 5 => ("CoastWatch", "calls", "LCoastWatch$CallLog;", true)
  | _ => ("CoastWatch", "now", "I", false)
def tyX6 : Nat → FieldType := fun k => match k with
  | 0 => .object "CoastWatch$Lookouts"
  | 1 => .object "CoastWatch$Sightings"
  | 2 => .object "CoastWatch$Shape"
  | 3 => .object "CoastWatch$Plots"
  | 4 => .object "CoastWatch$Boats"
  | 5 => .object "CoastWatch$CallLog"
  | _ => .int
abbrev wsX60 : List Cond := u_ws RX6 TX6 7
theorem nmX6 : ∀ a, a < 7 → ∀ b, b < 7 → a ≠ b → (TX6 a).2.1 ≠ (TX6 b).2.1 := by decide +kernel
theorem tyX6_ok : ∀ k, k < 7 → parseFieldDescriptor (TX6 k).2.2.1 = some (tyX6 k) := by decide +kernel
abbrev cX6_init : ByteArray := prog_1_method_1_code
def yX6_init : MethodName := ⟨RX6, "<init>", "()V"⟩
abbrev cX6_post : ByteArray := prog_1_method_2_code
def yX6_post : MethodName := ⟨RX6, "post", "(III)I"⟩
abbrev cX6_reach : ByteArray := prog_1_method_3_code
def yX6_reach : MethodName := ⟨RX6, "reach", "(II)I"⟩
abbrev cX6_weather : ByteArray := prog_1_method_4_code
def yX6_weather : MethodName := ⟨RX6, "weather", "(II)Z"⟩
abbrev cX6_sees : ByteArray := prog_1_method_5_code
def yX6_sees : MethodName := ⟨RX6, "sees", "(IIII)I"⟩
abbrev cX6_manned : ByteArray := prog_1_method_6_code
def yX6_manned : MethodName := ⟨RX6, "manned", "(I)I"⟩
abbrev cX6_open : ByteArray := prog_1_method_7_code
def yX6_open : MethodName := ⟨RX6, "open", "(I)I"⟩
abbrev cX6_sight : ByteArray := prog_1_method_8_code
def yX6_sight : MethodName := ⟨RX6, "sight", "(IIIII)I"⟩
abbrev cX6_plot : ByteArray := prog_1_method_9_code
def yX6_plot : MethodName := ⟨RX6, "plot", "(II)I"⟩
abbrev cX6_corners : ByteArray := prog_1_method_10_code
def yX6_corners : MethodName := ⟨RX6, "corners", "(II)I"⟩
abbrev cX6_corner : ByteArray := prog_1_method_11_code
def yX6_corner : MethodName := ⟨RX6, "corner", "(IIII)J"⟩
abbrev cX6_box : ByteArray := prog_1_method_12_code
def yX6_box : MethodName := ⟨RX6, "box", "(III)I"⟩
abbrev cX6_plotted : ByteArray := prog_1_method_13_code
def yX6_plotted : MethodName := ⟨RX6, "plotted", "(II)I"⟩
abbrev cX6_speed : ByteArray := prog_1_method_14_code
def yX6_speed : MethodName := ⟨RX6, "speed", "(I)Z"⟩
abbrev cX6_track : ByteArray := prog_1_method_15_code
def yX6_track : MethodName := ⟨RX6, "track", "(II)I"⟩
abbrev cX6_plan : ByteArray := prog_1_method_16_code
def yX6_plan : MethodName := ⟨RX6, "plan", "(IIII)I"⟩
abbrev cX6_in : ByteArray := prog_1_method_17_code
def yX6_in : MethodName := ⟨RX6, "in", "(I)Z"⟩
abbrev cX6_boat : ByteArray := prog_1_method_18_code
def yX6_boat : MethodName := ⟨RX6, "boat", "(III)I"⟩
abbrev cX6_call : ByteArray := prog_1_method_19_code
def yX6_call : MethodName := ⟨RX6, "call", "(II)Z"⟩
abbrev cX6_step : ByteArray := prog_1_method_20_code
def yX6_step : MethodName := ⟨RX6, "step", "(I)I"⟩
abbrev cX6_log : ByteArray := prog_1_method_21_code
def yX6_log : MethodName := ⟨RX6, "log", "(II)I"⟩
abbrev cX6_count : ByteArray := prog_1_method_22_code
def yX6_count : MethodName := ⟨RX6, "count", "(I)I"⟩
abbrev cX6_meet : ByteArray := prog_1_method_23_code
def yX6_meet : MethodName := ⟨RX6, "meet", "(II)I"⟩
abbrev cX6_isWithin : ByteArray := prog_1_method_24_code
def yX6_isWithin : MethodName := ⟨RX6, "isWithin", "(III)Z"⟩
abbrev cX6_isPlace : ByteArray := prog_1_method_25_code
def yX6_isPlace : MethodName := ⟨RX6, "isPlace", "(II)Z"⟩
abbrev cX6_isHour : ByteArray := prog_1_method_26_code
def yX6_isHour : MethodName := ⟨RX6, "isHour", "(I)Z"⟩
abbrev cX6_isMinute : ByteArray := prog_1_method_27_code
def yX6_isMinute : MethodName := ⟨RX6, "isMinute", "(I)Z"⟩
abbrev cX6_isEdge : ByteArray := prog_1_method_28_code
def yX6_isEdge : MethodName := ⟨RX6, "isEdge", "(II)Z"⟩
def RX7 : String := "CoastWatchModel"
def TX7 : u_T := fun k => match k with
  | 0 => ("CoastWatchModel", "thrown", "I", false)
  | 1 => ("CoastWatchModel", "postX", "[I", true)
  | 2 => ("CoastWatchModel", "postY", "[I", true)
  | 3 => ("CoastWatchModel", "postHeight", "[I", true)
  | 4 => ("CoastWatchModel", "reachX", "[I", true)
  | 5 => ("CoastWatchModel", "reachY", "[I", true)
  | 6 => ("CoastWatchModel", "visibility", "[I", true)
  | 7 => ("CoastWatchModel", "posts", "I", false)
  | 8 => ("CoastWatchModel", "reaches", "I", false)
  | 9 => ("CoastWatchModel", "now", "I", false)
  | 10 => ("CoastWatchModel", "sightings", "I", false)
  | 11 => ("CoastWatchModel", "plots", "I", false)
  | 12 => ("CoastWatchModel", "tracks", "I", false)
  | 13 => ("CoastWatchModel", "boats", "I", false)
  | 14 => ("CoastWatchModel", "plans", "I", false)
  | 15 => ("CoastWatchModel", "calls", "I", false)
  | 16 => ("CoastWatchModel", "speed", "I", false)
  | 17 => ("CoastWatchModel", "sighting", "[I", true)
  | 18 => ("CoastWatchModel", "plotOne", "[I", true)
  | 19 => ("CoastWatchModel", "plotOther", "[I", true)
  | 20 => ("CoastWatchModel", "plotTrack", "[I", true)
  | 21 => ("CoastWatchModel", "plan", "[I", true)
  | 22 => ("CoastWatchModel", "cameIn", "[I", true)
  | 23 => ("CoastWatchModel", "rule", "[I", true)
  | 24 => ("CoastWatchModel", "logBoat", "[I", true)
  | 25 => ("CoastWatchModel", "logRule", "[I", true)
  | 26 => ("CoastWatchModel", "logMinute", "[I", true)
  | 27 => ("CoastWatchModel", "boundA", "[J", true)
  | 28 => ("CoastWatchModel", "boundB", "[J", true)
  | 29 => ("CoastWatchModel", "boundC", "[J", true)
  | 30 => ("CoastWatchModel", "cornerX", "[J", true)
  | 31 => ("CoastWatchModel", "cornerY", "[J", true)
  | 32 => ("CoastWatchModel", "cornerD", "[J", true)
  | 33 => ("CoastWatchModel", "corners", "I", false)
  | _ => ("CoastWatchModel", "box", "[J", true)
def tyX7 : Nat → FieldType := fun k => match k with
  | 0 => .int
  | 1 => .array .int
  | 2 => .array .int
  | 3 => .array .int
  | 4 => .array .int
  | 5 => .array .int
  | 6 => .array .int
  | 7 => .int
  | 8 => .int
  | 9 => .int
  | 10 => .int
  | 11 => .int
  | 12 => .int
  | 13 => .int
  | 14 => .int
  | 15 => .int
  | 16 => .int
  | 17 => .array .int
  | 18 => .array .int
  | 19 => .array .int
  | 20 => .array .int
  | 21 => .array .int
  | 22 => .array .int
  | 23 => .array .int
  | 24 => .array .int
  | 25 => .array .int
  | 26 => .array .int
  | 27 => .array .long
  | 28 => .array .long
  | 29 => .array .long
  | 30 => .array .long
  | 31 => .array .long
  | 32 => .array .long
  | 33 => .int
  | _ => .array .long
abbrev wsX70 : List Cond := u_ws RX7 TX7 35
theorem nmX7 : ∀ a, a < 35 → ∀ b, b < 35 → a ≠ b → (TX7 a).2.1 ≠ (TX7 b).2.1 := by decide +kernel
theorem tyX7_ok : ∀ k, k < 35 → parseFieldDescriptor (TX7 k).2.2.1 = some (tyX7 k) := by decide +kernel
abbrev cX7_init : ByteArray := prog_9_method_1_code
def yX7_init : MethodName := ⟨RX7, "<init>", "()V"⟩
abbrev cX7_thrown : ByteArray := prog_9_method_2_code
def yX7_thrown : MethodName := ⟨RX7, "thrown", "()I"⟩
abbrev cX7_isIn : ByteArray := prog_9_method_3_code
def yX7_isIn : MethodName := ⟨RX7, "isIn", "(III)Z"⟩
abbrev cX7_isPlace : ByteArray := prog_9_method_4_code
def yX7_isPlace : MethodName := ⟨RX7, "isPlace", "(II)Z"⟩
abbrev cX7_post : ByteArray := prog_9_method_5_code
def yX7_post : MethodName := ⟨RX7, "post", "(III)I"⟩
abbrev cX7_reach : ByteArray := prog_9_method_6_code
def yX7_reach : MethodName := ⟨RX7, "reach", "(II)I"⟩
abbrev cX7_weather : ByteArray := prog_9_method_7_code
def yX7_weather : MethodName := ⟨RX7, "weather", "(II)Z"⟩
abbrev cX7_seesAt : ByteArray := prog_9_method_8_code
def yX7_seesAt : MethodName := ⟨RX7, "seesAt", "(IIII)Z"⟩
abbrev cX7_sees : ByteArray := prog_9_method_9_code
def yX7_sees : MethodName := ⟨RX7, "sees", "(IIII)I"⟩
abbrev cX7_seenBy : ByteArray := prog_9_method_10_code
def yX7_seenBy : MethodName := ⟨RX7, "seenBy", "(II)I"⟩
abbrev cX7_bits : ByteArray := prog_9_method_11_code
def yX7_bits : MethodName := ⟨RX7, "bits", "(I)I"⟩
abbrev cX7_manned : ByteArray := prog_9_method_12_code
def yX7_manned : MethodName := ⟨RX7, "manned", "(I)I"⟩
abbrev cX7_open : ByteArray := prog_9_method_13_code
def yX7_open : MethodName := ⟨RX7, "open", "(I)I"⟩
abbrev cX7_of : ByteArray := prog_9_method_14_code
def yX7_of : MethodName := ⟨RX7, "of", "(II)I"⟩
abbrev cX7_sight : ByteArray := prog_9_method_15_code
def yX7_sight : MethodName := ⟨RX7, "sight", "(IIIII)I"⟩
abbrev cX7_bounds : ByteArray := prog_9_method_16_code
def yX7_bounds : MethodName := ⟨RX7, "bounds", "(II)V"⟩
abbrev cX7_isWithin : ByteArray := prog_9_method_17_code
def yX7_isWithin : MethodName := ⟨RX7, "isWithin", "(JJJZ)Z"⟩
abbrev cX7_isPair : ByteArray := prog_9_method_18_code
def yX7_isPair : MethodName := ⟨RX7, "isPair", "(II)Z"⟩
abbrev cX7_meets : ByteArray := prog_9_method_19_code
def yX7_meets : MethodName := ⟨RX7, "meets", "(II)I"⟩
abbrev cX7_cross : ByteArray := prog_9_method_20_code
def yX7_cross : MethodName := ⟨RX7, "cross", "(II)V"⟩
abbrev cX7_compare : ByteArray := prog_9_method_21_code
def yX7_compare : MethodName := ⟨RX7, "compare", "(IJJJ)I"⟩
abbrev cX7_plot : ByteArray := prog_9_method_22_code
def yX7_plot : MethodName := ⟨RX7, "plot", "(II)I"⟩
abbrev cX7_corners : ByteArray := prog_9_method_23_code
def yX7_corners : MethodName := ⟨RX7, "corners", "(II)I"⟩
abbrev cX7_common : ByteArray := prog_9_method_24_code
def yX7_common : MethodName := ⟨RX7, "common", "(JJ)J"⟩
abbrev cX7_corner : ByteArray := prog_9_method_25_code
def yX7_corner : MethodName := ⟨RX7, "corner", "(IIII)J"⟩
abbrev cX7_boxOf : ByteArray := prog_9_method_26_code
def yX7_boxOf : MethodName := ⟨RX7, "boxOf", "(II)V"⟩
abbrev cX7_box : ByteArray := prog_9_method_27_code
def yX7_box : MethodName := ⟨RX7, "box", "(III)I"⟩
abbrev cX7_gap : ByteArray := prog_9_method_28_code
def yX7_gap : MethodName := ⟨RX7, "gap", "(JJJJ)J"⟩
abbrev cX7_latest : ByteArray := prog_9_method_29_code
def yX7_latest : MethodName := ⟨RX7, "latest", "(I)I"⟩
abbrev cX7_plotted : ByteArray := prog_9_method_30_code
def yX7_plotted : MethodName := ⟨RX7, "plotted", "(II)I"⟩
abbrev cX7_speed : ByteArray := prog_9_method_31_code
def yX7_speed : MethodName := ⟨RX7, "speed", "(I)Z"⟩
abbrev cX7_track : ByteArray := prog_9_method_32_code
def yX7_track : MethodName := ⟨RX7, "track", "(II)I"⟩
abbrev cX7_ofPlan : ByteArray := prog_9_method_33_code
def yX7_ofPlan : MethodName := ⟨RX7, "ofPlan", "(II)I"⟩
abbrev cX7_plan : ByteArray := prog_9_method_34_code
def yX7_plan : MethodName := ⟨RX7, "plan", "(IIII)I"⟩
abbrev cX7_in : ByteArray := prog_9_method_35_code
def yX7_in : MethodName := ⟨RX7, "in", "(I)Z"⟩
abbrev cX7_lastPlan : ByteArray := prog_9_method_36_code
def yX7_lastPlan : MethodName := ⟨RX7, "lastPlan", "(II)I"⟩
abbrev cX7_stands : ByteArray := prog_9_method_37_code
def yX7_stands : MethodName := ⟨RX7, "stands", "(III)I"⟩
abbrev cX7_boat : ByteArray := prog_9_method_38_code
def yX7_boat : MethodName := ⟨RX7, "boat", "(III)I"⟩
abbrev cX7_call : ByteArray := prog_9_method_39_code
def yX7_call : MethodName := ⟨RX7, "call", "(II)Z"⟩
abbrev cX7_step : ByteArray := prog_9_method_40_code
def yX7_step : MethodName := ⟨RX7, "step", "(I)I"⟩
abbrev cX7_overdue : ByteArray := prog_9_method_41_code
def yX7_overdue : MethodName := ⟨RX7, "overdue", "(I)V"⟩
abbrev cX7_log : ByteArray := prog_9_method_42_code
def yX7_log : MethodName := ⟨RX7, "log", "(II)I"⟩
abbrev cX7_count : ByteArray := prog_9_method_43_code
def yX7_count : MethodName := ⟨RX7, "count", "(I)I"⟩
def RJ6 : String := "java/lang/Integer"
def TJ6 : u_T := fun k => match k with
  | _ => ("", "", "", false)
def tyJ6 : Nat → FieldType := fun k => match k with
  | _ => .int
abbrev wsJ60 : List Cond := u_ws RJ6 TJ6 0
theorem nmJ6 : ∀ a, a < 0 → ∀ b, b < 0 → a ≠ b → (TJ6 a).2.1 ≠ (TJ6 b).2.1 := by decide +kernel
theorem tyJ6_ok : ∀ k, k < 0 → parseFieldDescriptor (TJ6 k).2.2.1 = some (tyJ6 k) := by decide +kernel
abbrev cJ6_bitCount_0f7a4 : ByteArray := prog_11_method_49_code
def yJ6_bitCount_0f7a4 : MethodName := ⟨RJ6, "bitCount", "(I)I"⟩
def RJ13 : String := "java/lang/Long"
def TJ13 : u_T := fun k => match k with
  | _ => ("", "", "", false)
def tyJ13 : Nat → FieldType := fun k => match k with
  | _ => .int
abbrev wsJ130 : List Cond := u_ws RJ13 TJ13 0
theorem nmJ13 : ∀ a, a < 0 → ∀ b, b < 0 → a ≠ b → (TJ13 a).2.1 ≠ (TJ13 b).2.1 := by decide +kernel
theorem tyJ13_ok : ∀ k, k < 0 → parseFieldDescriptor (TJ13 k).2.2.1 = some (tyJ13 k) := by decide +kernel
abbrev cJ13_compare_74951 : ByteArray := prog_12_method_42_code
def yJ13_compare_74951 : MethodName := ⟨RJ13, "compare", "(JJ)I"⟩
def RJ9 : String := "java/lang/Math"
def TJ9 : u_T := fun k => match k with
  | _ => ("", "", "", false)
def tyJ9 : Nat → FieldType := fun k => match k with
  | _ => .int
abbrev wsJ90 : List Cond := u_ws RJ9 TJ9 0
theorem nmJ9 : ∀ a, a < 0 → ∀ b, b < 0 → a ≠ b → (TJ9 a).2.1 ≠ (TJ9 b).2.1 := by decide +kernel
theorem tyJ9_ok : ∀ k, k < 0 → parseFieldDescriptor (TJ9 k).2.2.1 = some (tyJ9 k) := by decide +kernel
abbrev cJ9_floorDiv_f86c9 : ByteArray := prog_13_method_49_code
def yJ9_floorDiv_f86c9 : MethodName := ⟨RJ9, "floorDiv", "(JJ)J"⟩
abbrev cJ9_abs_067f4 : ByteArray := prog_13_method_61_code
def yJ9_abs_067f4 : MethodName := ⟨RJ9, "abs", "(J)J"⟩
abbrev cJ9_max_f86c9 : ByteArray := prog_13_method_66_code
def yJ9_max_f86c9 : MethodName := ⟨RJ9, "max", "(JJ)J"⟩
abbrev cJ9_min_7cf53 : ByteArray := prog_13_method_69_code
def yJ9_min_7cf53 : MethodName := ⟨RJ9, "min", "(II)I"⟩
abbrev cJ9_min_f86c9 : ByteArray := prog_13_method_70_code
def yJ9_min_f86c9 : MethodName := ⟨RJ9, "min", "(JJ)J"⟩
def RJ7 : String := "java/util/Arrays"
def TJ7 : u_T := fun k => match k with
  | _ => ("", "", "", false)
def tyJ7 : Nat → FieldType := fun k => match k with
  | _ => .int
abbrev wsJ70 : List Cond := u_ws RJ7 TJ7 0
theorem nmJ7 : ∀ a, a < 0 → ∀ b, b < 0 → a ≠ b → (TJ7 a).2.1 ≠ (TJ7 b).2.1 := by decide +kernel
theorem tyJ7_ok : ∀ k, k < 0 → parseFieldDescriptor (TJ7 k).2.2.1 = some (tyJ7 k) := by decide +kernel
abbrev cJ7_fill_53178 : ByteArray := prog_16_method_103_code
def yJ7_fill_53178 : MethodName := ⟨RJ7, "fill", "([II)V"⟩
def RL : String := "CoastWatchLaw"
abbrev cL_corner : ByteArray := method_3_code
def yL_corner : MethodName := ⟨RL, "corner", "(LCoastWatch;IIII[J)I"⟩
abbrev cL_box : ByteArray := method_4_code
def yL_box : MethodName := ⟨RL, "box", "(LCoastWatch;III[J)I"⟩
abbrev cL_law : ByteArray := code
def yL_law : MethodName := ⟨RL, "law", "([I)Z"⟩
abbrev vwCl : List vw_C := [(RX0, TX0, 8), (RX1, TX1, 5), (RX2, TX2, 9), (RX3, TX3, 12), (RX4, TX4, 10), (RX5, TX5, 8), (RX6, TX6, 7), (RX7, TX7, 35)]
end
section
/-! The words that every contract takes: all good words of the tables; and the nest's links, which ride in the premises. -/
def bw : List Cond := lw_tbl.filter goodWord
theorem bw_good : GoodIn lw_tbl bw := fun w h => ⟨(List.mem_filter.mp h).1, good_of_word (List.mem_filter.mp h).2⟩
theorem bw_self : GoodIn bw bw := fun w h => ⟨h, good_of_word (List.mem_filter.mp h).2⟩
theorem bw_t {w : Cond} (i : Nat) (h : tables_1[i]? = some w) (hg : goodWord w = true) : w ∈ bw := List.mem_filter.mpr ⟨List.mem_append_right _ (List.mem_of_getElem? h), hg⟩
theorem bw_p {w : Cond} (i : Nat) (h : (k2_sels lw_privs)[i]? = some w) (hg : goodWord w = true) : w ∈ bw := List.mem_filter.mpr ⟨List.mem_append_left _ (List.mem_of_getElem? h), hg⟩
theorem bw_ts (ws : List Cond) (ps : List Nat) (h : ws = ps.filterMap (fun i => tables_1[i]?)) (hg : ws.all goodWord = true) : ∀ w ∈ ws, w ∈ bw := by
  intro w hw
  have h1 := List.all_eq_true.mp hg w hw
  rw [h] at hw
  obtain ⟨i, -, hi⟩ := List.mem_filterMap.mp hw
  exact bw_t i hi h1
def rz_nest : Cond → Bool
  | .fieldLinkNest .. => true
  | .methodLinkNest .. => true
  | _ => false
def rz_NW (U : State) : Prop := ∀ w ∈ tables_1, rz_nest w = true → va_Nw w U
theorem rz_NW.same {u U : State} (h : u.vm = U.vm) (hn : rz_NW u) : rz_NW U := fun w hw hi => by
  have h1 := hn w hw hi
  cases w with
  | fieldLinkNest a b c d e f => exact va_Nw.same rfl h h1
  | methodLinkNest a b c d => exact va_Nw.same rfl h h1
  | _ => cases hi
theorem rz_NW.warm {s U : State} (h : s.WarmedH U.vm) (hn : rz_NW s) : rz_NW U := fun w hw hi => by
  have h1 := hn w hw hi
  cases w with
  | fieldLinkNest a b c d e f => exact va_Nw.warmF h h1
  | methodLinkNest a b c d => exact va_Nw.warmM h h1
  | _ => cases hi
theorem rz_NW.of {A : Array Value} {s : State} (h : ∀ w ∈ tables_1, w.before A s = true) : rz_NW s := fun w hw hi => by
  have h1 := h w hw
  cases w with
  | fieldLinkNest a b c d e f => exact va_Nw.of rfl h1
  | methodLinkNest a b c d => exact va_Nw.of rfl h1
  | _ => cases hi
end
section
/-! An abstract machine over named cells: rz_wp computes, for the code of one method, what must hold for it to end well; rz_sound (next part): then the machine itself does. -/
abbrev rz_C : Type := (Nat × List Value) ⊕ ((Nat × (Nat → Int32)) ⊕ (Nat × (Nat → Int64)))
abbrev rz_W : Type := List (Nat × rz_C)
abbrev rz_L : Type := List (Nat × Value)
/-- an instruction, the next place, the target (or the local, or a new cell's name), a number, its int and its long constant -/
abbrev rz_I : Type := Instr × Nat × Nat × Nat × Int32 × Int64
/-- a callee: how many arguments (the receiver too), its cells, its answer (0 int, 1 long, else none), whether it leaves all cells as they are, what it wants, what it gives -/
abbrev rz_K : Type := Nat × List Nat × Nat × Bool × (List Value → rz_W → Prop) × (List Value → rz_W → Option Value → rz_W → Prop)
def rz_get {α : Type} : List (Nat × α) → Nat → Option α
  | [], _ => none
  | (k, v) :: r, i => match Nat.beq k i with
    | true => some v
    | false => rz_get r i
def rz_set {α : Type} : List (Nat × α) → Nat → α → List (Nat × α)
  | [], _, _ => []
  | (k, v) :: r, i, x => match Nat.beq k i with
    | true => (k, x) :: r
    | false => (k, v) :: rz_set r i x
def rz_pos {α : Type} : List (Nat × α) → Nat → Nat
  | [], _ => 0
  | (k, _) :: r, i => match Nat.beq k i with
    | true => 0
    | false => rz_pos r i + 1
def rz_pop : Nat → List Value → List Value → Option (List Value × List Value)
  | 0, st, acc => some (acc, st)
  | _ + 1, [], _ => none
  | n + 1, v :: st, acc => rz_pop n st (v :: acc)
def rz_sub (w : rz_W) : List Nat → Option rz_W
  | [] => some []
  | k :: ks => match rz_get w k with
    | some c => match rz_sub w ks with
      | some r => some ((k, c) :: r)
      | none => none
    | none => none
def rz_back (w : rz_W) : rz_W → rz_W
  | [] => w
  | (k, c) :: r => rz_back (rz_set w k c) r
def rz_two : Value → Bool
  | .long _ => true
  | .double _ => true
  | _ => false
def rz_ins (i : Nat) (v : Value) : rz_L → rz_L
  | [] => [(i, v)]
  | (k, u) :: r => match Nat.ble i k with
    | true => (i, v) :: (k, u) :: r
    | false => (k, u) :: rz_ins i v r
def rz_cut1 (i : Nat) : rz_L → rz_L
  | [] => []
  | (k, u) :: r => match Nat.beq k i || (Nat.beq (k + 1) i && rz_two u) with
    | true => rz_cut1 i r
    | false => (k, u) :: rz_cut1 i r
def rz_cut2 (i : Nat) : rz_L → rz_L
  | [] => []
  | (k, u) :: r => match Nat.beq k i || (Nat.beq k (i + 1) || (Nat.beq (k + 1) i && rz_two u)) with
    | true => rz_cut2 i r
    | false => (k, u) :: rz_cut2 i r
def rz_st1 (lv : rz_L) (i : Nat) (v : Value) : rz_L := rz_ins i v (rz_cut1 i lv)
def rz_st2 (lv : rz_L) (i : Nat) (v : Value) : rz_L := rz_ins i v (rz_cut2 i lv)
def rz_mem (i : Nat) : List Nat → Bool
  | [] => false
  | k :: r => match Nat.beq k i with
    | true => true
    | false => rz_mem i r
def rz_keep (ks : List Nat) : rz_L → rz_L
  | [] => []
  | (k, u) :: r => match rz_mem k ks with
    | true => (k, u) :: rz_keep ks r
    | false => rz_keep ks r
def rz_words : List Value → Nat
  | [] => 0
  | v :: r => match rz_two v with
    | true => rz_words r + 2
    | false => rz_words r + 1
/-- no reference to the cell of this name -/
def rz_no1 (k : Nat) : Value → Bool
  | .ref a => !Nat.beq a k
  | _ => true
def rz_noL (k : Nat) : List Value → Bool
  | [] => true
  | v :: r => rz_no1 k v && rz_noL k r
def rz_noV (k : Nat) : rz_L → Bool
  | [] => true
  | (_, v) :: r => rz_no1 k v && rz_noV k r
def rz_noW (k : Nat) : rz_W → Bool
  | [] => true
  | (i, .inl (_, fs)) :: r => !Nat.beq i k && (rz_noL k fs && rz_noW k r)
  | (i, .inr _) :: r => !Nat.beq i k && rz_noW k r
def rz_pi (st : List Value) (k : Int32 → List Value → Prop) : Prop := match st with
  | .int x :: r => k x r
  | _ => False
def rz_pl (st : List Value) (k : Int64 → List Value → Prop) : Prop := match st with
  | .long x :: r => k x r
  | _ => False
def rz_pr (st : List Value) (k : Nat → List Value → Prop) : Prop := match st with
  | .ref x :: r => k x r
  | _ => False
def rz_gi (lv : rz_L) (i : Nat) (k : Int32 → Prop) : Prop := match rz_get lv i with
  | some (.int x) => k x
  | _ => False
def rz_gl (lv : rz_L) (i : Nat) (k : Int64 → Prop) : Prop := match rz_get lv i with
  | some (.long x) => k x
  | _ => False
def rz_gr (lv : rz_L) (i : Nat) (k : Nat → Prop) : Prop := match rz_get lv i with
  | some (.ref x) => k x
  | _ => False
def rz_ob (w : rz_W) (a ci : Nat) (k : List Value → Prop) : Prop := match rz_get w a with
  | some (.inl (cj, fs)) => match Nat.beq cj ci with
    | true => k fs
    | false => False
  | _ => False
def rz_ai (w : rz_W) (a : Nat) (k : Nat → (Nat → Int32) → Prop) : Prop := match rz_get w a with
  | some (.inr (.inl (n, f))) => k n f
  | _ => False
def rz_al (w : rz_W) (a : Nat) (k : Nat → (Nat → Int64) → Prop) : Prop := match rz_get w a with
  | some (.inr (.inr (n, f))) => k n f
  | _ => False
def rz_op {α : Type} (o : Option α) (k : α → Prop) : Prop := match o with
  | some x => k x
  | none => False
def rz_if (b : Bool) (k : Prop) : Prop := match b with
  | true => k
  | false => False
def rz_ret (rk : Nat) (k : Option Value → List Value → Prop) : Prop := match rk with
  | 0 => ∀ r : Int32, k (some (.int r)) [.int r]
  | 1 => ∀ r : Int64, k (some (.long r)) [.long r]
  | _ => k none []
def rz_kept (kp : Bool) (post : rz_W → Prop) (wc w : rz_W) (k : rz_W → Prop) : Prop := match kp with
  | true => post wc → k w
  | false => ∀ wc' : rz_W, post wc' → k (rz_back w wc')
def rz_app : List Value → List Value → List Value
  | [], b => b
  | v :: a, b => v :: rz_app a b
def rz_call (ce : rz_K) (st : List Value) (w : rz_W) (K : List Value → rz_W → Prop) : Prop :=
  rz_op (rz_pop ce.1 st []) fun q => rz_op (rz_sub w ce.2.1) fun wc => rz_if (Nat.ble (rz_words q.2) 8) (ce.2.2.2.2.1 q.1 wc ∧ rz_ret ce.2.2.1 (fun o vs => rz_kept ce.2.2.2.1 (ce.2.2.2.2.2 q.1 wc o) wc w (fun w' => K (rz_app vs q.2) w')))
def rz_sw (x : Int32) (K : Nat → Prop) (d : Nat) : List (Int32 × Nat) → Prop
  | [] => K d
  | (v, t) :: r => (x = v → K t) ∧ (¬ x = v → rz_sw x K d r)
def rz_c0 (cd : ClassFile.Cond) (x : Int32) (A B : Prop) : Prop := match cd with
  | .eq => (x = 0 → A) ∧ (¬ x = 0 → B)
  | .ne => (x = 0 → B) ∧ (¬ x = 0 → A)
  | .lt => (x < 0 → A) ∧ (¬ x < 0 → B)
  | .ge => (0 ≤ x → A) ∧ (¬ 0 ≤ x → B)
  | .gt => (0 < x → A) ∧ (¬ 0 < x → B)
  | .le => (x ≤ 0 → A) ∧ (¬ x ≤ 0 → B)
def rz_c2 (cd : ClassFile.Cond) (x y : Int32) (A B : Prop) : Prop := match cd with
  | .eq => (x = y → A) ∧ (¬ x = y → B)
  | .ne => (x = y → B) ∧ (¬ x = y → A)
  | .lt => (x < y → A) ∧ (¬ x < y → B)
  | .ge => (y ≤ x → A) ∧ (¬ y ≤ x → B)
  | .gt => (y < x → A) ∧ (¬ y < x → B)
  | .le => (x ≤ y → A) ∧ (¬ x ≤ y → B)
/-- one instruction: fld: a pool number's class and field; cal: its callee; sw: a switch's cases; bz: the answer is a truth value -/
def rz_stp (fld : List (Nat × Nat × Nat × Bool)) (cal cav : List (Nat × rz_K)) (sw : List (Int32 × Nat)) (bz : Bool) (RC RS : Nat) (Q : Option Value → rz_W → Prop) (K : Nat → rz_L → List Value → rz_W → Nat → Nat → Prop)
    (i : Instr) (nx tg na : Nat) (ci : Int32) (cl : Int64) (lv : rz_L) (st : List Value) (w : rz_W) (cs sl : Nat) : Prop := match i with
  | .iconst _ => K nx lv (.int ci :: st) w cs sl
  | .bipush _ => K nx lv (.int ci :: st) w cs sl
  | .sipush _ => K nx lv (.int ci :: st) w cs sl
  | .lconst _ => K nx lv (.long cl :: st) w cs sl
  | .ldc_w _ => K nx lv (.int ci :: st) w cs sl
  | .ldc2_w _ => K nx lv (.long cl :: st) w cs sl
  | .iload _ => rz_gi lv tg fun x => K nx lv (.int x :: st) w cs sl
  | .iload_n _ => rz_gi lv tg fun x => K nx lv (.int x :: st) w cs sl
  | .lload _ => rz_gl lv tg fun x => K nx lv (.long x :: st) w cs sl
  | .lload_n _ => rz_gl lv tg fun x => K nx lv (.long x :: st) w cs sl
  | .aload _ => rz_gr lv tg fun x => K nx lv (.ref x :: st) w cs sl
  | .aload_n _ => rz_gr lv tg fun x => K nx lv (.ref x :: st) w cs sl
  | .istore _ => rz_pi st fun x r => ∀ v : Int32, v = x → K nx (rz_st1 lv tg (.int v)) r w cs sl
  | .istore_n _ => rz_pi st fun x r => ∀ v : Int32, v = x → K nx (rz_st1 lv tg (.int v)) r w cs sl
  | .lstore _ => rz_pl st fun x r => ∀ v : Int64, v = x → K nx (rz_st2 lv tg (.long v)) r w cs sl
  | .lstore_n _ => rz_pl st fun x r => ∀ v : Int64, v = x → K nx (rz_st2 lv tg (.long v)) r w cs sl
  | .astore _ => rz_pr st fun x r => K nx (rz_st1 lv tg (.ref x)) r w cs sl
  | .astore_n _ => rz_pr st fun x r => K nx (rz_st1 lv tg (.ref x)) r w cs sl
  | .iinc _ _ => rz_gi lv tg fun x => ∀ v : Int32, v = x + ci → K nx (rz_st1 lv tg (.int v)) st w cs sl
  | .iadd => rz_pi st fun y r => rz_pi r fun x r => K nx lv (.int (x + y) :: r) w cs sl
  | .isub => rz_pi st fun y r => rz_pi r fun x r => K nx lv (.int (x - y) :: r) w cs sl
  | .imul => rz_pi st fun y r => rz_pi r fun x r => K nx lv (.int (x * y) :: r) w cs sl
  | .iand => rz_pi st fun y r => rz_pi r fun x r => K nx lv (.int (x &&& y) :: r) w cs sl
  | .ior => rz_pi st fun y r => rz_pi r fun x r => K nx lv (.int (x ||| y) :: r) w cs sl
  | .ixor => rz_pi st fun y r => rz_pi r fun x r => K nx lv (.int (x ^^^ y) :: r) w cs sl
  | .irem => rz_pi st fun y r => rz_pi r fun x r => ¬ y = 0 ∧ K nx lv (.int (x - x / y * y) :: r) w cs sl
  | .ineg => rz_pi st fun x r => K nx lv (.int (-x) :: r) w cs sl
  | .ishl => rz_pi st fun y r => rz_pi r fun x r => K nx lv (.int (x <<< (y &&& 31)) :: r) w cs sl
  | .ishr => rz_pi st fun y r => rz_pi r fun x r => K nx lv (.int (x >>> (y &&& 31)) :: r) w cs sl
  | .iushr => rz_pi st fun y r => rz_pi r fun x r => K nx lv (.int (x.toUInt32 >>> (y.toUInt32 &&& Int32.toUInt32 31)).toInt32 :: r) w cs sl
  | .ladd => rz_pl st fun y r => rz_pl r fun x r => K nx lv (.long (x + y) :: r) w cs sl
  | .lsub => rz_pl st fun y r => rz_pl r fun x r => K nx lv (.long (x - y) :: r) w cs sl
  | .lmul => rz_pl st fun y r => rz_pl r fun x r => K nx lv (.long (x * y) :: r) w cs sl
  | .lxor => rz_pl st fun y r => rz_pl r fun x r => K nx lv (.long (x ^^^ y) :: r) w cs sl
  | .ldiv => rz_pl st fun y r => rz_pl r fun x r => ¬ y = 0 ∧ K nx lv (.long (x / y) :: r) w cs sl
  | .lrem => rz_pl st fun y r => rz_pl r fun x r => ¬ y = 0 ∧ K nx lv (.long (x - x / y * y) :: r) w cs sl
  | .lneg => rz_pl st fun x r => K nx lv (.long (-x) :: r) w cs sl
  | .lcmp => rz_pl st fun y r => rz_pl r fun x r => K nx lv (.int (lg_cmp x y) :: r) w cs sl
  | .i2l => rz_pi st fun x r => K nx lv (.long x.toInt64 :: r) w cs sl
  | .l2i => rz_pl st fun x r => K nx lv (.int x.toInt32 :: r) w cs sl
  | .dup => match st with
    | .int x :: r => K nx lv (.int x :: .int x :: r) w cs sl
    | .ref x :: r => K nx lv (.ref x :: .ref x :: r) w cs sl
    | _ => False
  | .ifCond cd _ => rz_pi st fun x r => rz_c0 cd x (K tg lv r w cs sl) (K nx lv r w cs sl)
  | .if_icmp cd _ => rz_pi st fun y r => rz_pi r fun x r => rz_c2 cd x y (K tg lv r w cs sl) (K nx lv r w cs sl)
  | .goto _ => K tg lv st w cs sl
  | .tableswitch _ _ _ _ => rz_pi st fun x r => rz_sw x (fun t => K t lv r w cs sl) tg sw
  | .getfield ix => rz_pr st fun a r => rz_op (rz_get fld ix) fun q => rz_ob w a q.1 fun fs => rz_op fs[q.2.1]? fun v => K nx lv (v :: r) w cs sl
  | .putfield ix => rz_pi st fun x r => rz_pr r fun a r => rz_op (rz_get fld ix) fun q => rz_ob w a q.1 fun fs => rz_if (q.2.2 && Nat.blt q.2.1 fs.length) (K nx lv r (rz_set w a (.inl (q.1, fs.set q.2.1 (.int x)))) cs sl)
  | .iaload => rz_pi st fun j r => rz_pr r fun a r => rz_ai w a fun n f => vp_in j n ∧ K nx lv (.int (f j.toNatClampNeg) :: r) w cs sl
  | .laload => rz_pi st fun j r => rz_pr r fun a r => rz_al w a fun n f => vp_in j n ∧ K nx lv (.long (f j.toNatClampNeg) :: r) w cs sl
  | .iastore => rz_pi st fun x r => rz_pi r fun j r => rz_pr r fun a r => rz_ai w a fun n f => vp_in j n ∧ K nx lv r (rz_set w a (.inr (.inl (n, upd f j.toNatClampNeg x)))) cs sl
  | .lastore => rz_pl st fun x r => rz_pi r fun j r => rz_pr r fun a r => rz_al w a fun n f => vp_in j n ∧ K nx lv r (rz_set w a (.inr (.inr (n, vp_updL f j.toNatClampNeg x)))) cs sl
  | .arraylength => rz_pr st fun a r => rz_ai w a fun n _ => K nx lv (.int (nI n) :: r) w cs sl
  | .newarray _ => rz_pi st fun x r => rz_if (rz_noV tg lv && (rz_noL tg r && rz_noW tg w)) (x = ci ∧ cs + 1 ≤ RC ∧ sl + na ≤ RS ∧ K nx lv (.ref tg :: r) (w ++ [(tg, .inr (.inl (na, fun _ => 0)))]) (cs + 1) (sl + na))
  | .invokestatic ix => rz_op (rz_get cal ix) fun ce => rz_call ce st w fun st' w' => K nx lv st' w' cs sl
  | .invokevirtual ix => rz_op (rz_get cav ix) fun ce => rz_call ce st w fun st' w' => K nx lv st' w' cs sl
  | .ireturn => rz_pi st fun x r => match r, bz with
    | [], false => Q (some (.int x)) w
    | [], true => (x = 0 ∨ x = 1) ∧ Q (some (.int x)) w
    | _, _ => False
  | .lreturn => rz_pl st fun x r => match r with
    | [] => Q (some (.long x)) w
    | _ => False
  | .return_ => match st with
    | [] => Q none w
    | _ => False
  | _ => False
/-- a loop's head: which locals stay, and what holds there, by a number that falls -/
abbrev rz_J : Type := List Nat × (Nat → rz_L → rz_W → Prop)
/-- what a method hangs on: its code, fields, callees, switch, kind of answer, room, loops, end -/
def rz_run (cod : List (Nat × rz_I)) (fld : List (Nat × Nat × Nat × Bool)) (cal cav : List (Nat × rz_K)) (sw : List (Int32 × Nat)) (bz : Bool) (RC RS : Nat) (J : List (Nat × rz_J)) (Q : Option Value → rz_W → Prop) (n0 : Nat) : Nat → Nat → rz_L → List Value → rz_W → Nat → Nat → Prop
  | 0, _, _, _, _, _, _ => False
  | n + 1, pc, lv, st, w, cs, sl => rz_op (rz_get cod pc) fun i => rz_stp fld cal cav sw bz RC RS Q
      (fun pc lv st w cs sl => match rz_get J pc with
        | some j => match st with
          | [] => ∃ k, k < n0 ∧ j.2 k (rz_keep j.1 lv) w
          | _ => False
        | none => rz_run cod fld cal cav sw bz RC RS J Q n0 n pc lv st w cs sl) i.1 i.2.1 i.2.2.1 i.2.2.2.1 i.2.2.2.2.1 i.2.2.2.2.2 lv st w cs sl
end
section
/-! What the named cells are on the heap, and the lemmas on lists that the soundness of rz_run takes. -/
def rz_v (adr : Nat → Nat) : Value → Value
  | .ref k => .ref (adr k)
  | v => v
def rz_e (cI cJ : ClassId) (adr : Nat → Nat) : rz_C → va_E
  | .inl (ci, fs) => .inr (ci, fs.map (rz_v adr))
  | .inr (.inl (n, f)) => .inl (cI, n, .inl f)
  | .inr (.inr (n, f)) => .inl (cJ, n, .inr (.inl f))
def rz_c (cI cJ : ClassId) (adr : Nat → Nat) (w : rz_W) : va_W := w.map (fun q => (adr q.1, rz_e cI cJ adr q.2))
def rz_l (adr : Nat → Nat) (lv : rz_L) : rz_L := lv.map (fun q => (q.1, rz_v adr q.2))
def rz_D (adr : Nat → Nat) (A : Nat → Prop) (ks : List Nat) : Prop := ks.Nodup ∧ (∀ i ∈ ks, ∀ j ∈ ks, adr i = adr j → i = j) ∧ ∀ i ∈ ks, A (adr i)
theorem rz_beq {k i : Nat} (h : Nat.beq k i = true) : k = i := Nat.eq_of_beq_eq_true h
theorem rz_nbeq {k i : Nat} (h : Nat.beq k i = false) : k ≠ i := Nat.ne_of_beq_eq_false h
theorem rz_get_mem {α : Type} : ∀ {l : List (Nat × α)} {i : Nat} {v : α}, rz_get l i = some v → (i, v) ∈ l
  | [], _, _, h => by cases h
  | (k, u) :: r, i, v, h => by
    unfold rz_get at h
    cases hb : Nat.beq k i with
    | true =>
      rw [hb] at h
      cases h
      rw [rz_beq hb]
      exact List.mem_cons_self
    | false =>
      rw [hb] at h
      exact List.mem_cons_of_mem _ (rz_get_mem h)
theorem rz_get_pos {cI cJ : ClassId} {adr : Nat → Nat} : ∀ {w : rz_W} {i : Nat} {x : rz_C}, rz_get w i = some x → (rz_c cI cJ adr w)[rz_pos w i]? = some (adr i, rz_e cI cJ adr x)
  | [], _, _, h => by cases h
  | (k, u) :: r, i, x, h => by
    unfold rz_get at h
    unfold rz_pos
    cases hb : Nat.beq k i with
    | true =>
      rw [hb] at h
      cases h
      rw [rz_beq hb]
      rfl
    | false =>
      rw [hb] at h
      exact rz_get_pos (cI := cI) (cJ := cJ) (adr := adr) (w := r) h
theorem rz_set_pos {cI cJ : ClassId} {adr : Nat → Nat} {y : rz_C} : ∀ {w : rz_W} {i : Nat} {x : rz_C}, rz_get w i = some x → (rz_c cI cJ adr w).set (rz_pos w i) (adr i, rz_e cI cJ adr y) = rz_c cI cJ adr (rz_set w i y)
  | [], _, _, h => by cases h
  | (k, u) :: r, i, x, h => by
    unfold rz_get at h
    unfold rz_pos rz_set
    cases hb : Nat.beq k i with
    | true =>
      rw [hb] at h
      rw [rz_beq hb]
      rfl
    | false =>
      rw [hb] at h
      have ih := rz_set_pos (cI := cI) (cJ := cJ) (adr := adr) (y := y) (w := r) h
      show (adr k, rz_e cI cJ adr u) :: ((rz_c cI cJ adr r).set (rz_pos r i) (adr i, rz_e cI cJ adr y)) = (adr k, rz_e cI cJ adr u) :: rz_c cI cJ adr (rz_set r i y)
      rw [ih]
theorem rz_set_keys {α : Type} (y : α) : ∀ (w : List (Nat × α)) (i : Nat), (rz_set w i y).map Prod.fst = w.map Prod.fst
  | [], _ => rfl
  | (k, u) :: r, i => by
    unfold rz_set
    cases hb : Nat.beq k i with
    | true => rfl
    | false =>
      show k :: ((rz_set r i y).map Prod.fst) = k :: (r.map Prod.fst)
      rw [rz_set_keys y r i]
theorem rz_set_mem {α : Type} {y : α} : ∀ {w : List (Nat × α)} {i : Nat} {q : Nat × α}, (w.map Prod.fst).Nodup → q ∈ rz_set w i y → q = (i, y) ∨ (q ∈ w ∧ q.1 ≠ i)
  | [], _, _, _, h => by cases h
  | (k, u) :: r, i, q, hn, h => by
    have hn2 := List.nodup_cons.mp (show (k :: r.map Prod.fst).Nodup from hn)
    unfold rz_set at h
    cases hb : Nat.beq k i with
    | true =>
      rw [hb] at h
      have e := rz_beq hb
      rcases List.mem_cons.mp h with h | h
      · left; rw [h, e]
      · right
        refine ⟨List.mem_cons_of_mem _ h, fun z => hn2.1 ?_⟩
        rw [e, ← z]
        exact List.mem_map.mpr ⟨q, h, rfl⟩
    | false =>
      rw [hb] at h
      rcases List.mem_cons.mp h with h | h
      · right
        rw [h]
        exact ⟨List.mem_cons_self, rz_nbeq hb⟩
      · rcases rz_set_mem hn2.2 h with h | h
        · exact Or.inl h
        · exact Or.inr ⟨List.mem_cons_of_mem _ h.1, h.2⟩
theorem rz_back_keys : ∀ (wc w : rz_W), (rz_back w wc).map Prod.fst = w.map Prod.fst
  | [], _ => rfl
  | (k, x) :: r, w => by
    unfold rz_back
    rw [rz_back_keys r (rz_set w k x), rz_set_keys]
theorem rz_back_mem : ∀ {wc w : rz_W} {q : Nat × rz_C}, (w.map Prod.fst).Nodup → q ∈ rz_back w wc → q ∈ wc ∨ (q ∈ w ∧ q.1 ∉ wc.map Prod.fst)
  | [], w, q, _, h => Or.inr ⟨h, List.not_mem_nil⟩
  | (k, x) :: r, w, q, hn, h => by
    unfold rz_back at h
    rcases rz_back_mem (by rw [rz_set_keys]; exact hn) h with h | h
    · exact Or.inl (List.mem_cons_of_mem _ h)
    · rcases rz_set_mem hn h.1 with e | e
      · left; rw [e]; exact List.mem_cons_self
      · right
        refine ⟨e.1, fun z => ?_⟩
        rcases List.mem_cons.mp (show q.1 ∈ k :: r.map Prod.fst from z) with z | z
        · exact e.2 z
        · exact h.2 z
theorem rz_sub_keys {w : rz_W} : ∀ {ks : List Nat} {wc : rz_W}, rz_sub w ks = some wc → wc.map Prod.fst = ks ∧ ∀ q ∈ wc, q ∈ w
  | [], wc, h => by cases h; exact ⟨rfl, fun q h => by cases h⟩
  | k :: ks, wc, h => by
    unfold rz_sub at h
    cases hg : rz_get w k with
    | none => rw [hg] at h; cases h
    | some x =>
      rw [hg] at h
      cases hs : rz_sub w ks with
      | none => rw [hs] at h; cases h
      | some r =>
        rw [hs] at h
        cases h
        obtain ⟨h1, h2⟩ := rz_sub_keys hs
        refine ⟨by show k :: r.map Prod.fst = k :: ks; rw [h1], fun q hq => ?_⟩
        rcases List.mem_cons.mp hq with e | e
        · rw [e]; exact rz_get_mem hg
        · exact h2 q e
theorem rz_P_iff {D : va_G} {cl : List vw_C} {cI cJ : ClassId} {adr : Nat → Nat} {w : rz_W} {H : Heap} : va_P D cl (rz_c cI cJ adr w) H ↔ ∀ q ∈ w, va_at D cl (adr q.1, rz_e cI cJ adr q.2) H := by
  constructor
  · intro h q hq
    have h1 : (adr q.1, rz_e cI cJ adr q.2) ∈ rz_c cI cJ adr w := List.mem_map.mpr ⟨q, hq, rfl⟩
    obtain ⟨k, hk⟩ := List.getElem?_of_mem h1
    exact h k _ hk
  · intro h k q hk
    obtain ⟨z, hz, e⟩ := List.mem_map.mp (List.mem_of_getElem? hk)
    rw [← e]
    exact h z hz
theorem rz_nodup_inj {α : Type} : ∀ {l : List α}, l.Nodup → ∀ {i j : Nat} {a : α}, l[i]? = some a → l[j]? = some a → i = j
  | [], _, i, j, a, h, _ => by simp at h
  | b :: r, hn, 0, 0, a, _, _ => rfl
  | b :: r, hn, 0, j + 1, a, h1, h2 => by
    have h3 := List.nodup_cons.mp hn
    simp at h1 h2
    exact absurd (List.mem_of_getElem? h2) (by rw [← h1]; exact h3.1)
  | b :: r, hn, i + 1, 0, a, h1, h2 => by
    have h3 := List.nodup_cons.mp hn
    simp at h1 h2
    exact absurd (List.mem_of_getElem? h1) (by rw [← h2]; exact h3.1)
  | b :: r, hn, i + 1, j + 1, a, h1, h2 => by
    have h3 := List.nodup_cons.mp hn
    simp at h1 h2
    rw [rz_nodup_inj h3.2 h1 h2]
theorem rz_D.va {cI cJ : ClassId} {adr : Nat → Nat} {A : Nat → Prop} {w : rz_W} (h : rz_D adr A (w.map Prod.fst)) : va_D A (rz_c cI cJ adr w) := by
  obtain ⟨h1, h2, h3⟩ := h
  constructor
  · intro i j p q hi hj he
    have gi : ∃ z, w[i]? = some z ∧ (adr z.1, rz_e cI cJ adr z.2) = p := by
      have : (w.map (fun q => (adr q.1, rz_e cI cJ adr q.2)))[i]? = some p := hi
      rw [List.getElem?_map] at this
      cases hw : w[i]? with
      | none => rw [hw] at this; cases this
      | some z => rw [hw] at this; exact ⟨z, rfl, Option.some.inj this⟩
    have gj : ∃ z, w[j]? = some z ∧ (adr z.1, rz_e cI cJ adr z.2) = q := by
      have : (w.map (fun q => (adr q.1, rz_e cI cJ adr q.2)))[j]? = some q := hj
      rw [List.getElem?_map] at this
      cases hw : w[j]? with
      | none => rw [hw] at this; cases this
      | some z => rw [hw] at this; exact ⟨z, rfl, Option.some.inj this⟩
    obtain ⟨z1, e1, f1⟩ := gi
    obtain ⟨z2, e2, f2⟩ := gj
    rw [← f1, ← f2] at he
    have e3 := h2 z1.1 (List.mem_map.mpr ⟨z1, List.mem_of_getElem? e1, rfl⟩) z2.1 (List.mem_map.mpr ⟨z2, List.mem_of_getElem? e2, rfl⟩) he
    refine rz_nodup_inj h1 (a := z1.1) ?_ ?_
    · rw [List.getElem?_map, e1]; rfl
    · rw [List.getElem?_map, e2, e3]; rfl
  · intro k q hk
    obtain ⟨z, hz, e⟩ := List.mem_map.mp (List.mem_of_getElem? hk)
    rw [← e]
    exact h3 _ (List.mem_map.mpr ⟨z, hz, rfl⟩)
theorem rz_D.of_va {cI cJ : ClassId} {adr : Nat → Nat} {A : Nat → Prop} {w : rz_W} (h : va_D A (rz_c cI cJ adr w)) : rz_D adr A (w.map Prod.fst) := by
  have hm : ∀ (i k : Nat), (w.map Prod.fst)[i]? = some k → ∃ z, w[i]? = some z ∧ z.1 = k ∧ (rz_c cI cJ adr w)[i]? = some (adr k, rz_e cI cJ adr z.2) := by
    intro i k hi
    rw [List.getElem?_map] at hi
    cases hw : w[i]? with
    | none => rw [hw] at hi; cases hi
    | some z =>
      rw [hw] at hi
      have e : z.1 = k := Option.some.inj hi
      refine ⟨z, rfl, e, ?_⟩
      show (w.map _)[i]? = _
      rw [List.getElem?_map, hw, ← e]
      rfl
  refine ⟨?_, ?_, ?_⟩
  · rw [List.nodup_iff_pairwise_ne, List.pairwise_iff_getElem]
    intro i j hi hj hij e
    obtain ⟨z1, a1, b1, c1⟩ := hm i _ (List.getElem?_eq_getElem hi)
    obtain ⟨z2, a2, b2, c2⟩ := hm j _ (List.getElem?_eq_getElem hj)
    have := h.1 i j _ _ c1 c2 (by show adr _ = adr _; rw [e])
    omega
  · intro a ha b hb e
    obtain ⟨i, hi⟩ := List.getElem?_of_mem ha
    obtain ⟨j, hj⟩ := List.getElem?_of_mem hb
    obtain ⟨z1, a1, b1, c1⟩ := hm i _ hi
    obtain ⟨z2, a2, b2, c2⟩ := hm j _ hj
    have := h.1 i j _ _ c1 c2 e
    subst this
    rw [hi] at hj
    exact Option.some.inj hj
  · intro a ha
    obtain ⟨i, hi⟩ := List.getElem?_of_mem ha
    obtain ⟨z1, a1, b1, c1⟩ := hm i _ hi
    exact h.2 i _ c1
theorem rz_two_cat (adr : Nat → Nat) (u : Value) : ((rz_v adr u).category == 2) = rz_two u := by cases u <;> rfl
theorem rz_cat (adr : Nat → Nat) (u : Value) : (rz_v adr u).category = if rz_two u then 2 else 1 := by cases u <;> rfl
theorem rz_words_sum (adr : Nat → Nat) : ∀ st : List Value, ((st.map (rz_v adr)).map fun v => v.category).sum = rz_words st
  | [] => rfl
  | v :: r => by
    show (rz_v adr v).category + ((r.map (rz_v adr)).map fun v => v.category).sum = rz_words (v :: r)
    rw [rz_words_sum adr r, rz_cat]
    show (if rz_two v = true then 2 else 1) + rz_words r = match rz_two v with
      | true => rz_words r + 2
      | false => rz_words r + 1
    cases h : rz_two v
    · show 1 + rz_words r = rz_words r + 1
      omega
    · show 2 + rz_words r = rz_words r + 2
      omega
theorem rz_ins_mem {i : Nat} {v : Value} : ∀ {l : rz_L} {q : Nat × Value}, q ∈ rz_ins i v l → q = (i, v) ∨ q ∈ l
  | [], q, h => by
    rcases List.mem_cons.mp h with h | h
    · exact Or.inl h
    · cases h
  | (k, u) :: r, q, h => by
    unfold rz_ins at h
    cases hb : Nat.ble i k with
    | true =>
      rw [hb] at h
      rcases List.mem_cons.mp h with h | h
      · exact Or.inl h
      · exact Or.inr h
    | false =>
      rw [hb] at h
      rcases List.mem_cons.mp h with h | h
      · right; rw [h]; exact List.mem_cons_self
      · rcases rz_ins_mem h with h | h
        · exact Or.inl h
        · exact Or.inr (List.mem_cons_of_mem _ h)
theorem rz_cut1_mem {i : Nat} : ∀ {l : rz_L} {q : Nat × Value}, q ∈ rz_cut1 i l → q ∈ l ∧ (Nat.beq q.1 i || (Nat.beq (q.1 + 1) i && rz_two q.2)) = false
  | [], q, h => by cases h
  | (k, u) :: r, q, h => by
    unfold rz_cut1 at h
    cases hb : (Nat.beq k i || (Nat.beq (k + 1) i && rz_two u)) with
    | true =>
      rw [hb] at h
      obtain ⟨h1, h2⟩ := rz_cut1_mem h
      exact ⟨List.mem_cons_of_mem _ h1, h2⟩
    | false =>
      rw [hb] at h
      rcases List.mem_cons.mp h with h | h
      · rw [h]; exact ⟨List.mem_cons_self, hb⟩
      · obtain ⟨h1, h2⟩ := rz_cut1_mem h
        exact ⟨List.mem_cons_of_mem _ h1, h2⟩
theorem rz_cut2_mem {i : Nat} : ∀ {l : rz_L} {q : Nat × Value}, q ∈ rz_cut2 i l → q ∈ l ∧ (Nat.beq q.1 i || (Nat.beq q.1 (i + 1) || (Nat.beq (q.1 + 1) i && rz_two q.2))) = false
  | [], q, h => by cases h
  | (k, u) :: r, q, h => by
    unfold rz_cut2 at h
    cases hb : (Nat.beq k i || (Nat.beq k (i + 1) || (Nat.beq (k + 1) i && rz_two u))) with
    | true =>
      rw [hb] at h
      obtain ⟨h1, h2⟩ := rz_cut2_mem h
      exact ⟨List.mem_cons_of_mem _ h1, h2⟩
    | false =>
      rw [hb] at h
      rcases List.mem_cons.mp h with h | h
      · rw [h]; exact ⟨List.mem_cons_self, hb⟩
      · obtain ⟨h1, h2⟩ := rz_cut2_mem h
        exact ⟨List.mem_cons_of_mem _ h1, h2⟩
theorem rz_nb (a b : Nat) : (a == b) = Nat.beq a b := by
  cases h : Nat.beq a b with
  | true => rw [rz_beq h]; exact beq_self_eq_true b
  | false => exact beq_false_of_ne (rz_nbeq h)
theorem rz_lv_sub {ls : Array Slot} {nL : Nat} {l l' : rz_L} (h : lv_has ls nL l) (hs : ∀ q ∈ l', q ∈ l) : lv_has ls nL l' := ⟨h.1, h.2.1, fun q hq => h.2.2 q (hs q hq)⟩
theorem rz_lv_st1 {ls : Array Slot} {nL i : Nat} {lv : rz_L} {v : Value} {adr : Nat → Nat} (h : lv_has ls nL ((i, rz_v adr v) :: (rz_l adr lv).filter (fun q => !(q.1 == i) && !(q.1 + 1 == i && q.2.category == 2)))) : lv_has ls nL (rz_l adr (rz_st1 lv i v)) := by
  refine rz_lv_sub h (fun q hq => ?_)
  obtain ⟨z, hz, e⟩ := List.mem_map.mp hq
  rcases rz_ins_mem hz with hz | hz
  · rw [← e, hz]; exact List.mem_cons_self
  · obtain ⟨h1, h2⟩ := rz_cut1_mem hz
    refine List.mem_cons_of_mem _ (List.mem_filter.mpr ⟨?_, ?_⟩)
    · rw [← e]; exact List.mem_map.mpr ⟨z, h1, rfl⟩
    · rw [← e]
      show (!(z.1 == i) && !(z.1 + 1 == i && (rz_v adr z.2).category == 2)) = true
      rw [rz_two_cat, rz_nb, rz_nb]
      revert h2
      cases Nat.beq z.1 i <;> cases Nat.beq (z.1 + 1) i <;> cases rz_two z.2 <;> simp
theorem rz_lv_st2 {ls : Array Slot} {nL i : Nat} {lv : rz_L} {v : Value} {adr : Nat → Nat} (h : lv_has ls nL ((i, rz_v adr v) :: (rz_l adr lv).filter (fun q => !(q.1 == i) && (!(q.1 == i + 1) && !(q.1 + 1 == i && q.2.category == 2))))) : lv_has ls nL (rz_l adr (rz_st2 lv i v)) := by
  refine rz_lv_sub h (fun q hq => ?_)
  obtain ⟨z, hz, e⟩ := List.mem_map.mp hq
  rcases rz_ins_mem hz with hz | hz
  · rw [← e, hz]; exact List.mem_cons_self
  · obtain ⟨h1, h2⟩ := rz_cut2_mem hz
    refine List.mem_cons_of_mem _ (List.mem_filter.mpr ⟨?_, ?_⟩)
    · rw [← e]; exact List.mem_map.mpr ⟨z, h1, rfl⟩
    · rw [← e]
      show (!(z.1 == i) && (!(z.1 == i + 1) && !(z.1 + 1 == i && (rz_v adr z.2).category == 2))) = true
      rw [rz_two_cat, rz_nb, rz_nb, rz_nb]
      revert h2
      cases Nat.beq z.1 i <;> cases Nat.beq z.1 (i + 1) <;> cases Nat.beq (z.1 + 1) i <;> cases rz_two z.2 <;> simp
theorem rz_keep_mem {ks : List Nat} : ∀ {l : rz_L} {q : Nat × Value}, q ∈ rz_keep ks l → q ∈ l
  | [], q, h => by cases h
  | (k, u) :: r, q, h => by
    unfold rz_keep at h
    cases hb : rz_mem k ks with
    | true =>
      rw [hb] at h
      rcases List.mem_cons.mp h with h | h
      · rw [h]; exact List.mem_cons_self
      · exact List.mem_cons_of_mem _ (rz_keep_mem h)
    | false =>
      rw [hb] at h
      exact List.mem_cons_of_mem _ (rz_keep_mem h)
theorem rz_lv_keep {ls : Array Slot} {nL : Nat} {lv : rz_L} {adr : Nat → Nat} (ks : List Nat) (h : lv_has ls nL (rz_l adr lv)) : lv_has ls nL (rz_l adr (rz_keep ks lv)) := by
  refine rz_lv_sub h (fun q hq => ?_)
  obtain ⟨z, hz, e⟩ := List.mem_map.mp hq
  rw [← e]
  exact List.mem_map.mpr ⟨z, rz_keep_mem hz, rfl⟩
theorem rz_lv_at {ls : Array Slot} {nL i : Nat} {lv : rz_L} {v : Value} {adr : Nat → Nat} (h : lv_has ls nL (rz_l adr lv)) (hg : rz_get lv i = some v) : ls[i]? = some (.val (rz_v adr v)) :=
  h.2.2 (i, rz_v adr v) (List.mem_map.mpr ⟨(i, v), rz_get_mem hg, rfl⟩)
theorem rz_pop_spec : ∀ {n : Nat} {st acc av rest : List Value}, rz_pop n st acc = some (av, rest) → ∃ b, av = b ++ acc ∧ st = b.reverse ++ rest ∧ b.length = n
  | 0, st, acc, av, rest, h => by cases h; exact ⟨[], rfl, rfl, rfl⟩
  | n + 1, [], acc, av, rest, h => by cases h
  | n + 1, v :: st, acc, av, rest, h => by
    obtain ⟨b, h1, h2, h3⟩ := rz_pop_spec (n := n) (st := st) (acc := v :: acc) h
    refine ⟨b ++ [v], by rw [h1]; simp, by rw [h2]; simp, by simp [h3]⟩
theorem rz_app_eq : ∀ (a b : List Value), rz_app a b = a ++ b
  | [], _ => rfl
  | v :: a, b => by unfold rz_app; rw [rz_app_eq a b]; rfl
-- a new cell's name
def rz_ad (adr : Nat → Nat) (k q : Nat) : Nat → Nat := fun i => if i = k then q else adr i
theorem rz_ad_s (adr : Nat → Nat) (k q : Nat) : rz_ad adr k q k = q := by simp [rz_ad]
theorem rz_ad_n {adr : Nat → Nat} {k q i : Nat} (h : i ≠ k) : rz_ad adr k q i = adr i := by simp [rz_ad, h]
theorem rz_no1_v {adr : Nat → Nat} {k q : Nat} {v : Value} (h : rz_no1 k v = true) : rz_v (rz_ad adr k q) v = rz_v adr v := by
  cases v with
  | ref a =>
    have h1 : Nat.beq a k = false := by
      revert h; show (!Nat.beq a k) = true → _; cases Nat.beq a k <;> simp
    show Value.ref (rz_ad adr k q a) = .ref (adr a)
    rw [rz_ad_n (rz_nbeq h1)]
  | _ => rfl
theorem rz_noL_v {adr : Nat → Nat} {k q : Nat} : ∀ {l : List Value}, rz_noL k l = true → l.map (rz_v (rz_ad adr k q)) = l.map (rz_v adr)
  | [], _ => rfl
  | v :: r, h => by
    have h1 := (Bool.and_eq_true _ _).mp (show (rz_no1 k v && rz_noL k r) = true from h)
    show rz_v _ v :: r.map _ = rz_v _ v :: r.map _
    rw [rz_no1_v h1.1, rz_noL_v h1.2]
theorem rz_noV_v {adr : Nat → Nat} {k q : Nat} : ∀ {l : rz_L}, rz_noV k l = true → rz_l (rz_ad adr k q) l = rz_l adr l
  | [], _ => rfl
  | (i, v) :: r, h => by
    have h1 := (Bool.and_eq_true _ _).mp (show (rz_no1 k v && rz_noV k r) = true from h)
    show (i, rz_v _ v) :: rz_l _ r = (i, rz_v _ v) :: rz_l _ r
    rw [rz_no1_v h1.1, rz_noV_v h1.2]
def rz_ei (ci : Nat) (fs : List Value) (adr : Nat → Nat) : va_E := .inr (ci, fs.map (rz_v adr))
theorem rz_noW_c {cI cJ : ClassId} {adr : Nat → Nat} {k q : Nat} : ∀ {w : rz_W}, rz_noW k w = true → rz_c cI cJ (rz_ad adr k q) w = rz_c cI cJ adr w ∧ k ∉ w.map Prod.fst
  | [], _ => ⟨rfl, List.not_mem_nil⟩
  | (i, .inl (ci, fs)) :: r, h => by
    have h1 := (Bool.and_eq_true _ _).mp (show (!Nat.beq i k && (rz_noL k fs && rz_noW k r)) = true from h)
    have h2 := (Bool.and_eq_true _ _).mp h1.2
    have h3 : Nat.beq i k = false := by
      have := h1.1; revert this; cases Nat.beq i k <;> simp
    obtain ⟨e1, e2⟩ := rz_noW_c (cI := cI) (cJ := cJ) (adr := adr) (q := q) h2.2
    refine ⟨?_, fun z => ?_⟩
    · show (rz_ad adr k q i, rz_ei ci fs (rz_ad adr k q)) :: rz_c cI cJ (rz_ad adr k q) r = (adr i, rz_ei ci fs adr) :: rz_c cI cJ adr r
      rw [e1, rz_ad_n (rz_nbeq h3)]
      unfold rz_ei
      rw [rz_noL_v h2.1]
    · rcases List.mem_cons.mp (show k ∈ i :: r.map Prod.fst from z) with z | z
      · exact rz_nbeq h3 z.symm
      · exact e2 z
  | (i, .inr x) :: r, h => by
    have h1 := (Bool.and_eq_true _ _).mp (show (!Nat.beq i k && rz_noW k r) = true from h)
    have h3 : Nat.beq i k = false := by
      have := h1.1; revert this; cases Nat.beq i k <;> simp
    obtain ⟨e1, e2⟩ := rz_noW_c (cI := cI) (cJ := cJ) (adr := adr) (q := q) h1.2
    refine ⟨?_, fun z => ?_⟩
    · show (rz_ad adr k q i, rz_e cI cJ (rz_ad adr k q) (.inr x)) :: rz_c cI cJ (rz_ad adr k q) r = (adr i, rz_e cI cJ adr (.inr x)) :: rz_c cI cJ adr r
      rw [e1, rz_ad_n (rz_nbeq h3)]
      cases x <;> rfl
    · rcases List.mem_cons.mp (show k ∈ i :: r.map Prod.fst from z) with z | z
      · exact rz_nbeq h3 z.symm
      · exact e2 z
end
section
/-! One instruction of rz_stp is sound: the machine does it. -/
theorem rz_pi_s {st : List Value} {k : Int32 → List Value → Prop} (h : rz_pi st k) : ∃ x r, st = .int x :: r ∧ k x r := by
  match st, h with
  | .int x :: r, h => exact ⟨x, r, rfl, h⟩
theorem rz_pl_s {st : List Value} {k : Int64 → List Value → Prop} (h : rz_pl st k) : ∃ x r, st = .long x :: r ∧ k x r := by
  match st, h with
  | .long x :: r, h => exact ⟨x, r, rfl, h⟩
theorem rz_pr_s {st : List Value} {k : Nat → List Value → Prop} (h : rz_pr st k) : ∃ x r, st = .ref x :: r ∧ k x r := by
  match st, h with
  | .ref x :: r, h => exact ⟨x, r, rfl, h⟩
theorem rz_op_s {α : Type} {o : Option α} {k : α → Prop} (h : rz_op o k) : ∃ x, o = some x ∧ k x := by
  match o, h with
  | some x, h => exact ⟨x, rfl, h⟩
theorem rz_if_s {b : Bool} {k : Prop} (h : rz_if b k) : b = true ∧ k := by
  match b, h with
  | true, h => exact ⟨rfl, h⟩
theorem rz_gi_s {lv : rz_L} {i : Nat} {k : Int32 → Prop} (h : rz_gi lv i k) : ∃ x, rz_get lv i = some (.int x) ∧ k x := by
  unfold rz_gi at h
  split at h
  · rename_i x e; exact ⟨x, e, h⟩
  · exact h.elim
theorem rz_gl_s {lv : rz_L} {i : Nat} {k : Int64 → Prop} (h : rz_gl lv i k) : ∃ x, rz_get lv i = some (.long x) ∧ k x := by
  unfold rz_gl at h
  split at h
  · rename_i x e; exact ⟨x, e, h⟩
  · exact h.elim
theorem rz_gr_s {lv : rz_L} {i : Nat} {k : Nat → Prop} (h : rz_gr lv i k) : ∃ x, rz_get lv i = some (.ref x) ∧ k x := by
  unfold rz_gr at h
  split at h
  · rename_i x e; exact ⟨x, e, h⟩
  · exact h.elim
theorem rz_ob_s {w : rz_W} {a ci : Nat} {k : List Value → Prop} (h : rz_ob w a ci k) : ∃ fs, rz_get w a = some (.inl (ci, fs)) ∧ k fs := by
  unfold rz_ob at h
  split at h
  · rename_i cj fs e
    cases hb : Nat.beq cj ci with
    | true => rw [hb] at h; rw [rz_beq hb] at e; exact ⟨fs, e, h⟩
    | false => rw [hb] at h; exact h.elim
  · exact h.elim
theorem rz_ai_s {w : rz_W} {a : Nat} {k : Nat → (Nat → Int32) → Prop} (h : rz_ai w a k) : ∃ n f, rz_get w a = some (.inr (.inl (n, f))) ∧ k n f := by
  unfold rz_ai at h
  split at h
  · rename_i n f e; exact ⟨n, f, e, h⟩
  · exact h.elim
theorem rz_al_s {w : rz_W} {a : Nat} {k : Nat → (Nat → Int64) → Prop} (h : rz_al w a k) : ∃ n f, rz_get w a = some (.inr (.inr (n, f))) ∧ k n f := by
  unfold rz_al at h
  split at h
  · rename_i n f e; exact ⟨n, f, e, h⟩
  · exact h.elim
theorem rz_l_pos {adr : Nat → Nat} : ∀ {lv : rz_L} {i : Nat} {v : Value}, rz_get lv i = some v → (rz_l adr lv)[rz_pos lv i]? = some (i, rz_v adr v)
  | [], _, _, h => by cases h
  | (k, u) :: r, i, v, h => by
    unfold rz_get at h
    unfold rz_pos
    cases hb : Nat.beq k i with
    | true => rw [hb] at h; cases h; rw [rz_beq hb]; rfl
    | false => rw [hb] at h; exact rz_l_pos (adr := adr) (lv := r) h
theorem rz_sw_s {x : Int32} {K : Nat → Prop} {d : Nat} : ∀ {l : List (Int32 × Nat)}, rz_sw x K d l → (∃ (j : Nat) (t : Nat), l[j]? = some (x, t) ∧ K t) ∨ ((∀ q ∈ l, ¬ x = q.1) ∧ K d)
  | [], h => Or.inr ⟨fun q hq => absurd hq List.not_mem_nil, h⟩
  | (v, t) :: r, h => by
    by_cases e : x = v
    · exact Or.inl ⟨0, t, by rw [e]; rfl, h.1 e⟩
    · rcases rz_sw_s (h.2 e) with ⟨j, t', h1, h2⟩ | ⟨h1, h2⟩
      · exact Or.inl ⟨j + 1, t', h1, h2⟩
      · refine Or.inr ⟨fun q hq => ?_, h2⟩
        rcases List.mem_cons.mp hq with z | z
        · rw [z]; exact e
        · exact h1 q z
def rz_kind (rk : Nat) (o : Option Value) : Prop := match rk with
  | 0 => ∃ r : Int32, o = some (.int r)
  | 1 => ∃ r : Int64, o = some (.long r)
  | _ => o = none
def rz_Qc (ce : rz_K) (D : va_G) (cI cJ : ClassId) (adr : Nat → Nat) (av : List Value) (w : rz_W) (A : Nat → Prop) : Array Value → State → Outcome → State → Prop := fun _ st oc t =>
  (∃ (o : Option Value) (w' : rz_W), oc = .returned o ∧ rz_kind ce.2.2.1 o ∧ w'.map Prod.fst = ce.2.1 ∧ (ce.2.2.2.1 = true → w' = w) ∧ ce.2.2.2.2.2 av w o w' ∧ va_P D vwCl (rz_c cI cJ adr w') t.heap) ∧ va_F A st t
def rz_CallOK (l : Launch) (R : Room) (own : String) (cc : ByteArray) (ins : Instr) (ce : rz_K) : Prop :=
  ce.2.1.Nodup ∧ ∀ (p : Program) (e : Env) (s : State) (m : MethodId) (args : Array Value) (below : List Frame) (meth : Method) (c : Code) (H : Heap) (locs : List Loc) (cs sl pc : Nat) (ls : Array Slot) (nL : Nat) (D : va_G) (cI cJ : ClassId) (adr : Nat → Nat) (av rest : List Value) (w : rz_W),
    cs ≤ R.cells → sl ≤ R.slots → p.tables.exec = Jvm.exec → c.code = cc → c.maxLocals = nL → s.vm.findClass own = some m.cls → (∀ w ∈ bw, w.before args s = true) → rz_NW s → va_K D vwCl [(cI, .int), (cJ, .long)] s →
    decode cc pc = .ok (ins, 3) → ls.size = nL → av.length = ce.1 → (rest.map fun v => v.category).sum ≤ 8 → va_P D vwCl (rz_c cI cJ adr w) H → va_D (fun _ => True) (rz_c cI cJ adr w) → w.map Prod.fst = ce.2.1 → ce.2.2.2.2.1 av w →
    ∃ a, va_Run p l e R s m args below meth c H locs cs sl 0 0 (F0 m pc ls ((av.map (rz_v adr)).reverse ++ rest)) rest (rz_Qc ce D cI cJ adr av w (va_A (rz_c cI cJ adr w) H.size) a) (va_A (rz_c cI cJ adr w) H.size)
def rz_FOK (own : String) (s : State) (args : Array Value) (ix : Nat) (q : Nat × Nat × Bool) : Prop := ∃ (C : String) (T : u_T) (N : Nat), vwCl[q.1]? = some (C, T, N) ∧ (∀ w ∈ u_ws C T N, w ∈ bw) ∧ q.2.1 < N ∧
  ((Cond.fieldLink own ix (T q.2.1).1 (T q.2.1).2.1 (T q.2.1).2.2.1).before args s = true ∨ (Cond.fieldLinkNest own ix (T q.2.1).1 (T q.2.1).2.1 (T q.2.1).2.2.1 "CoastWatch").before args s = true) ∧
  (∃ ty : Nat → FieldType, ∀ k, k < N → parseFieldDescriptor (T k).2.2.1 = some (ty k)) ∧ (∀ a, a < N → ∀ b, b < N → a ≠ b → (T a).2.1 ≠ (T b).2.1) ∧ (q.2.2 = true → (T q.2.1).2.2.2 = false ∧ parseFieldDescriptor (T q.2.1).2.2.1 = some .int)
def rz_len : Instr → Nat
  | .bipush _ => 2
  | .sipush _ => 3
  | .ldc_w _ => 3
  | .ldc2_w _ => 3
  | .iload _ => 2
  | .lload _ => 2
  | .aload _ => 2
  | .istore _ => 2
  | .lstore _ => 2
  | .astore _ => 2
  | .iinc _ _ => 3
  | .ifCond _ _ => 3
  | .if_icmp _ _ => 3
  | .goto _ => 3
  | .getfield _ => 3
  | .putfield _ => 3
  | .newarray _ => 2
  | .new _ => 3
  | .invokespecial _ => 3
  | .invokestatic _ => 3
  | .invokevirtual _ => 3
  | _ => 1
def rz_aux (own : String) (nL : Nat) (ret : Option FieldType) (bz : Bool) (i : Instr) (pc tg na : Nat) (ci : Int32) (cl : Int64) : Bool := match i with
  | .iconst n => decide (Int32.ofInt n = ci)
  | .bipush n => decide ((Int8.ofInt n).toInt32 = ci)
  | .sipush n => decide ((Int16.ofInt n).toInt32 = ci)
  | .lconst n => decide (Int64.ofNat (n : Nat) = cl)
  | .ldc_w ix => decide (tables_1[na]? = some (.constant own ix ci))
  | .ldc2_w ix => decide (tables_1[na]? = some (.constantLong own ix cl))
  | .iload k => decide (k = tg)
  | .iload_n k => decide ((k : Nat) = tg)
  | .lload k => decide (k = tg)
  | .lload_n k => decide ((k : Nat) = tg)
  | .aload k => decide (k = tg)
  | .aload_n k => decide ((k : Nat) = tg)
  | .istore k => decide (k = tg ∧ tg < nL)
  | .istore_n k => decide ((k : Nat) = tg ∧ tg < nL)
  | .lstore k => decide (k = tg ∧ tg + 1 < nL)
  | .lstore_n k => decide ((k : Nat) = tg ∧ tg + 1 < nL)
  | .astore k => decide (k = tg ∧ tg < nL)
  | .astore_n k => decide ((k : Nat) = tg ∧ tg < nL)
  | .iinc k n => decide (k = tg ∧ tg < nL ∧ Int32.ofInt n = ci)
  | .ifCond _ off => decide ((pc : Int) + off = (tg : Int))
  | .if_icmp _ off => decide ((pc : Int) + off = (tg : Int))
  | .goto off => decide ((pc : Int) + off = (tg : Int))
  | .newarray a => decide (a = .int ∧ ¬ ci < 0 ∧ ci.toNatClampNeg = na ∧ na ≤ 10000)
  | .ireturn => decide (ret = some (if bz then .boolean else .int))
  | .lreturn => decide (ret = some .long)
  | .return_ => decide (ret = none)
  | _ => true
/-- the row of a table is the code's own -/
def rz_row (own : String) (cc : ByteArray) (nL : Nat) (ret : Option FieldType) (bz : Bool) (sw : List (Int32 × Nat)) (pc : Nat) (q : rz_I) : Prop := match q.1 with
  | .tableswitch d lo hi offs => (∃ len, decode cc pc = .ok (.tableswitch d lo hi offs, len)) ∧ (pc : Int) + d = (q.2.2.1 : Int) ∧ lo + sw.length = hi + 1 ∧ (List.range sw.length).all (fun j => match sw[j]?, offs[j]? with
    | some (v, t), some off => decide (v.toInt = lo + j ∧ (pc : Int) + off = (t : Int))
    | _, _ => false) = true
  | i => decode cc pc = .ok (i, rz_len i) ∧ q.2.1 = pc + rz_len i ∧ rz_aux own nL ret bz i pc q.2.2.1 q.2.2.2.1 q.2.2.2.2.1 q.2.2.2.2.2 = true
theorem rz_arrI : Cond.arrayClass .int ∈ bw := bw_t 67 (by decide +kernel) rfl
section RZS
variable {p : Program} {l : Launch} {e : Env} {R : Room} {s : State} {m : MethodId} {args : Array Value} {below : List Frame} {meth : Method} {c : Code} {QQ : State → Prop}
theorem rz_callW {H H0 : Heap} {locs : List Loc} {cells slots mc ms pc : Nat} {ls : Array Slot} {rest st0 av : List Value} {a : Array Value} {A0 A1 : Nat → Prop} {free : Addr → Prop} {ce : rz_K} {D : va_G} {cI cJ : ClassId} {adr : Nat → Nat} {wc : rz_W}
    (hr : va_Run p l e R s m args below meth c H locs cells slots mc ms (F0 m pc ls st0) rest (rz_Qc ce D cI cJ adr av wc A1 a) free) (hS : va_S A0 H0 H locs) (hA : ∀ q, q < H.size → A1 q → A0 q) (hf : ∀ q, free q → A0 q)
    (kk : ∀ (o : Option Value) (w' : rz_W) (H1 : Heap) (locs1 : List Loc), rz_kind ce.2.2.1 o → w'.map Prod.fst = ce.2.1 → (ce.2.2.2.1 = true → w' = wc) → ce.2.2.2.2.2 av wc o w' → va_P D vwCl (rz_c cI cJ adr w') H1 → H.size ≤ H1.size → (∀ q : Nat, q < H.size → ¬ A1 q → H1[q]? = H[q]?) → va_S A0 H0 H1 locs1 →
      W p l e R s m args below meth c H1 locs1 (cells + mc) (slots + ms) QQ (F0 m (pc + 3) ls (o.toList ++ rest))) : W p l e R s m args below meth c H locs cells slots QQ (F0 m pc ls st0) := by
  intro T hT X
  obtain ⟨v, st₀, t, T', L, h0, X', hL, e1, e2, ⟨⟨o, w', hv, hk1, hk2, hk3, hk4, hk5⟩, hz, hk⟩, st⟩ := hr T hT X
  cases hv
  rw [h0] at hz hk
  obtain ⟨t2, a1, b1⟩ := kk v w' T'.heap (locs ++ L) hk1 hk2 hk3 hk4 (by rw [e1]; exact hk5) (by rw [e1]; exact hz) (fun q h1 h2 => by rw [e1]; exact hk q h1 h2)
    ⟨Nat.le_trans hS.1 (by rw [e1]; exact hz), fun q h1 h2 => by rw [e1, hk q (Nat.lt_of_lt_of_le h1 hS.1) (fun z => h2 (hA q (Nat.lt_of_lt_of_le h1 hS.1) z))]; exact hS.2.1 q h1 h2, fun q hq => by
      rcases List.mem_append.mp hq with h | h
      · exact hS.2.2 q h
      · exact hf _ (hL q h)⟩ T' rfl X'
  exact ⟨t2, st t2 a1, b1⟩
def rz_Rel (D : va_G) (cI cJ : ClassId) (A : Nat → Prop) (s : State) (nL : Nat) (ks : List Nat) (RC RS : Nat) (adr0 adr : Nat → Nat) (lv : rz_L) (w : rz_W) (cs sl : Nat) (H : Heap) (locs : List Loc) (ls : Array Slot) : Prop :=
  va_P D vwCl (rz_c cI cJ adr w) H ∧ rz_D adr A (w.map Prod.fst) ∧ va_S A s.heap H locs ∧ lv_has ls nL (rz_l adr lv) ∧ (∀ k ∈ ks, adr k = adr0 k) ∧ (∃ ex : List Nat, w.map Prod.fst = ks ++ ex ∧ ex.length ≤ cs ∧ ∀ k, k ∉ ex → adr k = adr0 k) ∧ cs ≤ RC ∧ sl ≤ RS
def rz_G (p : Program) (l : Launch) (e : Env) (R : Room) (s : State) (m : MethodId) (args : Array Value) (below : List Frame) (meth : Method) (c : Code) (QQ : State → Prop) (D : va_G) (cI cJ : ClassId) (A : Nat → Prop) (nL : Nat) (ks : List Nat) (RC RS : Nat) (adr0 : Nat → Nat) (pc : Nat) (lv : rz_L) (st : List Value) (w : rz_W) (cs sl : Nat) : Prop :=
  ∀ (adr : Nat → Nat) (H : Heap) (locs : List Loc) (ls : Array Slot), rz_Rel D cI cJ A s nL ks RC RS adr0 adr lv w cs sl H locs ls → W p l e R s m args below meth c H locs cs sl QQ (F0 m pc ls (st.map (rz_v adr)))
set_option maxHeartbeats 8000000 in
set_option maxRecDepth 100000 in
theorem rz_step {D : va_G} {cI cJ : ClassId} {A : Nat → Prop} {nL : Nat} {ks : List Nat} {RC RS : Nat} {adr0 : Nat → Nat} {own : String} {cc : ByteArray} {ret : Option FieldType} {bz : Bool} {fld : List (Nat × Nat × Nat × Bool)} {cal cav : List (Nat × rz_K)} {sw : List (Int32 × Nat)} {Q : Option Value → rz_W → Prop} {Qc : Array Value → State → Outcome → State → Prop} {free : Addr → Prop}
    (hx : p.tables.exec = Jvm.exec) (hb : c.code = cc) (hlocks : meth.locks = false) (hml : c.maxLocals = nL) (hown : s.vm.findClass own = some m.cls) (hts : ∀ w ∈ bw, w.before args s = true) (hnw : rz_NW s) (hK : va_K D vwCl [(cI, .int), (cJ, .long)] s) (hA : ∀ q, s.heap.size ≤ q → A q) (hR : RC ≤ R.cells ∧ RS ≤ R.slots) (hr : meth.sig.returnType = ret)
    (hfld : ∀ ix q, rz_get fld ix = some q → rz_FOK own s args ix q) (hcal : ∀ ix ce, rz_get cal ix = some ce → rz_CallOK l R own cc (.invokestatic ix) ce) (hcav : ∀ ix ce, rz_get cav ix = some ce → rz_CallOK l R own cc (.invokevirtual ix) ce)
    (hfin : ∀ (adr : Nat → Nat) (lv : rz_L) (w : rz_W) (cs sl : Nat) (H : Heap) (locs : List Loc) (ls : Array Slot) (o : Option Value), rz_Rel D cI cJ A s nL ks RC RS adr0 adr lv w cs sl H locs ls → Q o w → (∀ q ∈ locs, free q.base) ∧ ∀ t : State, t.heap = H → s.WarmedH t.vm → Qc args s (.returned o) t)
    (hQQ : ∀ (H : Heap) (locs : List Loc) (g : JFrame), W p l e R s m args below meth c H locs RC RS (MQ below Qc args s RC RS free) g → W p l e R s m args below meth c H locs RC RS QQ g)
    {pc nx tg na : Nat} {ci : Int32} {cl : Int64} {i : Instr} (hrow : rz_row own cc nL ret bz sw pc (i, nx, tg, na, ci, cl))
    {Kp : Nat → rz_L → List Value → rz_W → Nat → Nat → Prop} (hKp : ∀ pc lv st w cs sl, Kp pc lv st w cs sl → rz_G p l e R s m args below meth c QQ D cI cJ A nL ks RC RS adr0 pc lv st w cs sl)
    {lv : rz_L} {st : List Value} {w : rz_W} {cs sl : Nat} (h : rz_stp fld cal cav sw bz RC RS Q Kp i nx tg na ci cl lv st w cs sl) : rz_G p l e R s m args below meth c QQ D cI cJ A nL ks RC RS adr0 pc lv st w cs sl := by
  intro adr H locs ls hr0
  obtain ⟨hP, hD, hS, hl, hk, hex, hc1, hc2⟩ := id hr0
  have ax : ∀ {b : Bool} {P : Prop} [Decidable P], b = true → b = decide P → P := fun h1 h2 => of_decide_eq_true (h2.symm.trans h1)
  have callk : ∀ {ins : Instr} {ce : rz_K}, rz_CallOK l R own cc ins ce → decode cc pc = .ok (ins, 3) → rz_call ce st w (fun st' w' => Kp (pc + 3) lv st' w' cs sl) → W p l e R s m args below meth c H locs cs sl QQ (F0 m pc ls (st.map (rz_v adr))) := by
    intro ins ce hok hd h
    obtain ⟨⟨av, rest⟩, hpop, h⟩ := rz_op_s h
    obtain ⟨wc, hsub, h⟩ := rz_op_s h
    obtain ⟨hwd, hpre, h⟩ := rz_if_s h
    obtain ⟨b, b1, b2, b3⟩ := rz_pop_spec hpop
    rw [List.append_nil] at b1
    subst b1
    obtain ⟨hkeys, hin⟩ := rz_sub_keys hsub
    have hwd2 : ((rest.map (rz_v adr)).map fun v => v.category).sum ≤ 8 := by rw [rz_words_sum]; exact Nat.le_of_ble_eq_true hwd
    have hPc : va_P D vwCl (rz_c cI cJ adr wc) H := rz_P_iff.mpr (fun q hq => rz_P_iff.mp hP q (hin q hq))
    have hkin : ∀ k ∈ wc.map Prod.fst, k ∈ w.map Prod.fst := by
      intro k hk9
      obtain ⟨q, hq, e9⟩ := List.mem_map.mp hk9
      exact List.mem_map.mpr ⟨q, hin q hq, e9⟩
    have hDc : rz_D adr A (wc.map Prod.fst) := ⟨by rw [hkeys]; exact hok.1, fun i hi j hj e9 => hD.2.1 i (hkin i hi) j (hkin j hj) e9, fun i hi => hD.2.2 i (hkin i hi)⟩
    have hDt : va_D (fun _ => True) (rz_c cI cJ adr wc) := hDc.va.weaken (fun _ _ _ _ => trivial)
    obtain ⟨a, hrun⟩ := hok.2 p e s m args below meth c H locs cs sl pc ls nL D cI cJ adr av (rest.map (rz_v adr)) wc (Nat.le_trans hc1 hR.1) (Nat.le_trans hc2 hR.2) hx hb hml hown hts hnw hK hd hl.1 b3 hwd2 hPc hDt hkeys hpre
    have hst : st.map (rz_v adr) = (av.map (rz_v adr)).reverse ++ rest.map (rz_v adr) := by rw [b2, List.map_append, List.map_reverse]
    rw [hst]
    have hAin : ∀ q, va_A (rz_c cI cJ adr wc) H.size q → A q := by
      intro q hq
      rcases hq with ⟨k, e9, hk9⟩ | hq
      · exact hDc.va.2 k _ hk9
      · exact hA q (Nat.le_trans hS.1 hq)
    refine rz_callW hrun hS (fun q _ hq => hAin q hq) hAin (fun o w' H1 locs1 j1 j2 j3 j4 j5 j6 j7 j8 => ?_)
    have hback : va_P D vwCl (rz_c cI cJ adr (rz_back w w')) H1 := by
      refine rz_P_iff.mpr (fun q hq => ?_)
      rcases rz_back_mem hD.1 hq with z | ⟨z1, z2⟩
      · exact rz_P_iff.mp j5 q z
      · have hat := rz_P_iff.mp hP q z1
        refine hat.kept (j7 _ hat.lt (fun z3 => ?_))
        rcases z3 with ⟨k, e9, hk9⟩ | z3
        · obtain ⟨y, hy, e8⟩ := List.mem_map.mp (List.mem_of_getElem? hk9)
          have e7 : adr y.1 = adr q.1 := congrArg Prod.fst e8
          have e6 := hD.2.1 y.1 (List.mem_map.mpr ⟨y, hin y hy, rfl⟩) q.1 (List.mem_map.mpr ⟨q, z1, rfl⟩) e7
          refine z2 ?_
          rw [j2, ← hkeys, ← e6]
          exact List.mem_map.mpr ⟨y, hy, rfl⟩
        · exact absurd hat.lt (Nat.not_lt.mpr z3)
    have hrel : ∀ w2 : rz_W, va_P D vwCl (rz_c cI cJ adr w2) H1 → w2.map Prod.fst = w.map Prod.fst → rz_Rel D cI cJ A s nL ks RC RS adr0 adr lv w2 cs sl H1 locs1 ls := fun w2 g1 g2 => ⟨g1, by rw [g2]; exact hD, j8, hl, hk, by rw [g2]; exact hex, hc1, hc2⟩
    have hkp : ∀ vs : List Value, o.toList = vs → vs.map (rz_v adr) = vs → rz_kept ce.2.2.2.1 (ce.2.2.2.2.2 av wc o) wc w (fun w2 => Kp (pc + 3) lv (rz_app vs rest) w2 cs sl) → W p l e R s m args below meth c H1 locs1 cs sl QQ (F0 m (pc + 3) ls (o.toList ++ rest.map (rz_v adr))) := by
      intro vs hvs hvm hkept
      have e5 : o.toList ++ rest.map (rz_v adr) = (rz_app vs rest).map (rz_v adr) := by rw [rz_app_eq, List.map_append, hvm, hvs]
      rw [e5]
      unfold rz_kept at hkept
      cases hb2 : ce.2.2.2.1 with
      | true =>
        rw [hb2] at hkept
        have e4 := j3 hb2
        subst e4
        have hsame : va_P D vwCl (rz_c cI cJ adr w) H1 := by
          refine rz_P_iff.mpr (fun q hq => ?_)
          by_cases z : q.1 ∈ w'.map Prod.fst
          · obtain ⟨y, hy, e8⟩ := List.mem_map.mp z
            have e3 : y = q := by
              have hy2 := hin y hy
              obtain ⟨i1, hi1⟩ := List.getElem?_of_mem hy2
              obtain ⟨i2, hi2⟩ := List.getElem?_of_mem hq
              have : i1 = i2 := rz_nodup_inj hD.1 (a := q.1) (by rw [List.getElem?_map, hi1]; exact congrArg some e8) (by rw [List.getElem?_map, hi2]; rfl)
              subst this
              rw [hi1] at hi2
              exact Option.some.inj hi2
            rw [← e3]
            exact rz_P_iff.mp j5 y hy
          · have hat := rz_P_iff.mp hP q hq
            refine hat.kept (j7 _ hat.lt (fun z3 => ?_))
            rcases z3 with ⟨k, e9, hk9⟩ | z3
            · obtain ⟨y, hy, e8⟩ := List.mem_map.mp (List.mem_of_getElem? hk9)
              have e7 : adr y.1 = adr q.1 := congrArg Prod.fst e8
              have e6 := hD.2.1 y.1 (List.mem_map.mpr ⟨y, hin y hy, rfl⟩) q.1 (List.mem_map.mpr ⟨q, hq, rfl⟩) e7
              exact z (by rw [← e6]; exact List.mem_map.mpr ⟨y, hy, rfl⟩)
            · exact absurd hat.lt (Nat.not_lt.mpr z3)
        exact hKp _ _ _ _ _ _ (hkept j4) adr H1 locs1 ls (hrel w hsame rfl)
      | false =>
        rw [hb2] at hkept
        exact hKp _ _ _ _ _ _ (hkept w' j4) adr H1 locs1 ls (hrel _ hback (rz_back_keys w' w))
    unfold rz_kind at j1
    unfold rz_ret at h
    split at j1
    · rename_i hrk
      obtain ⟨rv, rfl⟩ := j1
      rw [hrk] at h
      exact hkp [.int rv] rfl rfl (h rv)
    · rename_i hrk
      obtain ⟨rv, rfl⟩ := j1
      rw [hrk] at h
      exact hkp [.long rv] rfl rfl (h rv)
    · rename_i hrk1 hrk2
      subst j1
      refine hkp [] rfl rfl ?_
      revert h
      split
      · rename_i z; exact absurd z (by intro z; exact hrk1 z)
      · rename_i z; exact absurd z (by intro z; exact hrk2 z)
      · exact id
  cases i with
  | iconst n =>
    obtain ⟨hd, hn, ha⟩ := hrow
    have hn : nx = pc + 1 := hn
    subst hn
    exact lv_iconst hx hb hd (ax ha rfl) (hKp _ _ _ _ _ _ h adr H locs ls hr0)
  | bipush n =>
    obtain ⟨hd, hn, ha⟩ := hrow
    have hn : nx = pc + 2 := hn
    subst hn
    exact lv_bipush hx hb hd (ax ha rfl) (hKp _ _ _ _ _ _ h adr H locs ls hr0)
  | sipush n =>
    obtain ⟨hd, hn, ha⟩ := hrow
    have hn : nx = pc + 3 := hn
    subst hn
    exact lv_sipush hx hb hd (ax ha rfl) (hKp _ _ _ _ _ _ h adr H locs ls hr0)
  | lconst n =>
    obtain ⟨hd, hn, ha⟩ := hrow
    have hn : nx = pc + 1 := hn
    subst hn
    exact lv_lconst hx hb hd (ax ha rfl) (hKp _ _ _ _ _ _ h adr H locs ls hr0)
  | ldc_w ix =>
    obtain ⟨hd, hn, ha⟩ := hrow
    have hn : nx = pc + 3 := hn
    subst hn
    have ha : tables_1[na]? = some (.constant own ix ci) := ax ha rfl
    exact lv_ldcw hx hb hown (hts _ (bw_t na ha rfl)) hd (hKp _ _ _ _ _ _ h adr H locs ls hr0)
  | ldc2_w ix =>
    obtain ⟨hd, hn, ha⟩ := hrow
    have hn : nx = pc + 3 := hn
    subst hn
    have ha : tables_1[na]? = some (.constantLong own ix cl) := ax ha rfl
    exact lv_ldc2 hx hb hown (hts _ (bw_t na ha rfl)) hd (hKp _ _ _ _ _ _ h adr H locs ls hr0)
  | iload k =>
    obtain ⟨hd, hn, ha⟩ := hrow
    have hn : nx = pc + 2 := hn
    subst hn
    have ha : k = tg := ax ha rfl
    subst ha
    obtain ⟨x, hg, h⟩ := rz_gi_s h
    exact lv_iload hx hb hd (rz_lv_at hl hg) (hKp _ _ _ _ _ _ h adr H locs ls hr0)
  | iload_n k =>
    obtain ⟨hd, hn, ha⟩ := hrow
    have hn : nx = pc + 1 := hn
    subst hn
    have ha : (k : Nat) = tg := ax ha rfl
    obtain ⟨x, hg, h⟩ := rz_gi_s h
    exact lv_iload_n hx hb hd ha (rz_lv_at hl hg) (hKp _ _ _ _ _ _ h adr H locs ls hr0)
  | lload k =>
    obtain ⟨hd, hn, ha⟩ := hrow
    have hn : nx = pc + 2 := hn
    subst hn
    have ha : k = tg := ax ha rfl
    subst ha
    obtain ⟨x, hg, h⟩ := rz_gl_s h
    exact lv_lload hx hb hd (rz_lv_at hl hg) (hKp _ _ _ _ _ _ h adr H locs ls hr0)
  | lload_n k =>
    obtain ⟨hd, hn, ha⟩ := hrow
    have hn : nx = pc + 1 := hn
    subst hn
    have ha : (k : Nat) = tg := ax ha rfl
    obtain ⟨x, hg, h⟩ := rz_gl_s h
    exact lv_lload_n hx hb hd ha (rz_lv_at hl hg) (hKp _ _ _ _ _ _ h adr H locs ls hr0)
  | aload k =>
    obtain ⟨hd, hn, ha⟩ := hrow
    have hn : nx = pc + 2 := hn
    subst hn
    have ha : k = tg := ax ha rfl
    subst ha
    obtain ⟨x, hg, h⟩ := rz_gr_s h
    exact lv_aload hx hb hd (rz_lv_at hl hg) (hKp _ _ _ _ _ _ h adr H locs ls hr0)
  | aload_n k =>
    obtain ⟨hd, hn, ha⟩ := hrow
    have hn : nx = pc + 1 := hn
    subst hn
    have ha : (k : Nat) = tg := ax ha rfl
    obtain ⟨x, hg, h⟩ := rz_gr_s h
    exact lv_aload_n hx hb hd ha (rz_lv_at hl hg) (hKp _ _ _ _ _ _ h adr H locs ls hr0)
  | istore k =>
    obtain ⟨hd, hn, ha⟩ := hrow
    have hn : nx = pc + 2 := hn
    subst hn
    obtain ⟨ha, ha2⟩ : k = tg ∧ tg < nL := ax ha rfl
    subst ha
    obtain ⟨x, r, e1, h⟩ := rz_pi_s h
    subst e1
    exact lv_istore hx hb hd hl ha2 rfl (fun ls' hl' => hKp _ _ _ _ _ _ (h x rfl) adr H locs ls' ⟨hP, hD, hS, rz_lv_st1 (v := .int x) hl', hk, hex, hc1, hc2⟩)
  | istore_n k =>
    obtain ⟨hd, hn, ha⟩ := hrow
    have hn : nx = pc + 1 := hn
    subst hn
    obtain ⟨ha, ha2⟩ : (k : Nat) = tg ∧ tg < nL := ax ha rfl
    obtain ⟨x, r, e1, h⟩ := rz_pi_s h
    subst e1
    exact lv_istore_n hx hb hd ha hl ha2 rfl (fun ls' hl' => hKp _ _ _ _ _ _ (h x rfl) adr H locs ls' ⟨hP, hD, hS, rz_lv_st1 (v := .int x) hl', hk, hex, hc1, hc2⟩)
  | lstore k =>
    obtain ⟨hd, hn, ha⟩ := hrow
    have hn : nx = pc + 2 := hn
    subst hn
    obtain ⟨ha, ha2⟩ : k = tg ∧ tg + 1 < nL := ax ha rfl
    subst ha
    obtain ⟨x, r, e1, h⟩ := rz_pl_s h
    subst e1
    exact lv_lstore hx hb hd hl ha2 rfl (fun ls' hl' => hKp _ _ _ _ _ _ (h x rfl) adr H locs ls' ⟨hP, hD, hS, rz_lv_st2 (v := .long x) hl', hk, hex, hc1, hc2⟩)
  | lstore_n k =>
    obtain ⟨hd, hn, ha⟩ := hrow
    have hn : nx = pc + 1 := hn
    subst hn
    obtain ⟨ha, ha2⟩ : (k : Nat) = tg ∧ tg + 1 < nL := ax ha rfl
    obtain ⟨x, r, e1, h⟩ := rz_pl_s h
    subst e1
    exact lv_lstore_n hx hb hd ha hl ha2 rfl (fun ls' hl' => hKp _ _ _ _ _ _ (h x rfl) adr H locs ls' ⟨hP, hD, hS, rz_lv_st2 (v := .long x) hl', hk, hex, hc1, hc2⟩)
  | astore k =>
    obtain ⟨hd, hn, ha⟩ := hrow
    have hn : nx = pc + 2 := hn
    subst hn
    obtain ⟨ha, ha2⟩ : k = tg ∧ tg < nL := ax ha rfl
    subst ha
    obtain ⟨x, r, e1, h⟩ := rz_pr_s h
    subst e1
    exact lv_astore hx hb hd hl ha2 rfl (fun ls' hl' => hKp _ _ _ _ _ _ h adr H locs ls' ⟨hP, hD, hS, rz_lv_st1 (v := .ref x) hl', hk, hex, hc1, hc2⟩)
  | astore_n k =>
    obtain ⟨hd, hn, ha⟩ := hrow
    have hn : nx = pc + 1 := hn
    subst hn
    obtain ⟨ha, ha2⟩ : (k : Nat) = tg ∧ tg < nL := ax ha rfl
    obtain ⟨x, r, e1, h⟩ := rz_pr_s h
    subst e1
    exact lv_astore_n hx hb hd ha hl ha2 rfl (fun ls' hl' => hKp _ _ _ _ _ _ h adr H locs ls' ⟨hP, hD, hS, rz_lv_st1 (v := .ref x) hl', hk, hex, hc1, hc2⟩)
  | iinc k n =>
    obtain ⟨hd, hn, ha⟩ := hrow
    have hn : nx = pc + 3 := hn
    subst hn
    obtain ⟨ha, ha2, ha3⟩ : k = tg ∧ tg < nL ∧ Int32.ofInt n = ci := ax ha rfl
    subst ha
    obtain ⟨x, hg, h⟩ := rz_gi_s h
    exact lv_iinc hx hb hd hl (k := rz_pos lv k) (rz_l_pos hg) (by rw [ha3]) ha2 rfl (fun ls' hl' => hKp _ _ _ _ _ _ (h (x + ci) rfl) adr H locs ls' ⟨hP, hD, hS, rz_lv_st1 (v := .int (x + ci)) hl', hk, hex, hc1, hc2⟩)
  | iadd =>
    obtain ⟨hd, hn, ha⟩ := hrow
    have hn : nx = pc + 1 := hn
    subst hn
    obtain ⟨y, r, e1, h⟩ := rz_pi_s h
    subst e1
    obtain ⟨x, r, e1, h⟩ := rz_pi_s h
    subst e1
    exact lv_iadd hx hb hd (hKp _ _ _ _ _ _ h adr H locs ls hr0)
  | isub =>
    obtain ⟨hd, hn, ha⟩ := hrow
    have hn : nx = pc + 1 := hn
    subst hn
    obtain ⟨y, r, e1, h⟩ := rz_pi_s h
    subst e1
    obtain ⟨x, r, e1, h⟩ := rz_pi_s h
    subst e1
    exact lv_isub hx hb hd (hKp _ _ _ _ _ _ h adr H locs ls hr0)
  | imul =>
    obtain ⟨hd, hn, ha⟩ := hrow
    have hn : nx = pc + 1 := hn
    subst hn
    obtain ⟨y, r, e1, h⟩ := rz_pi_s h
    subst e1
    obtain ⟨x, r, e1, h⟩ := rz_pi_s h
    subst e1
    exact lv_imul hx hb hd (hKp _ _ _ _ _ _ h adr H locs ls hr0)
  | iand =>
    obtain ⟨hd, hn, ha⟩ := hrow
    have hn : nx = pc + 1 := hn
    subst hn
    obtain ⟨y, r, e1, h⟩ := rz_pi_s h
    subst e1
    obtain ⟨x, r, e1, h⟩ := rz_pi_s h
    subst e1
    exact lv_iand hx hb hd (hKp _ _ _ _ _ _ h adr H locs ls hr0)
  | ior =>
    obtain ⟨hd, hn, ha⟩ := hrow
    have hn : nx = pc + 1 := hn
    subst hn
    obtain ⟨y, r, e1, h⟩ := rz_pi_s h
    subst e1
    obtain ⟨x, r, e1, h⟩ := rz_pi_s h
    subst e1
    exact lv_ior hx hb hd (hKp _ _ _ _ _ _ h adr H locs ls hr0)
  | ixor =>
    obtain ⟨hd, hn, ha⟩ := hrow
    have hn : nx = pc + 1 := hn
    subst hn
    obtain ⟨y, r, e1, h⟩ := rz_pi_s h
    subst e1
    obtain ⟨x, r, e1, h⟩ := rz_pi_s h
    subst e1
    exact lv_ixor hx hb hd (hKp _ _ _ _ _ _ h adr H locs ls hr0)
  | ishl =>
    obtain ⟨hd, hn, ha⟩ := hrow
    have hn : nx = pc + 1 := hn
    subst hn
    obtain ⟨y, r, e1, h⟩ := rz_pi_s h
    subst e1
    obtain ⟨x, r, e1, h⟩ := rz_pi_s h
    subst e1
    exact lv_ishl hx hb hd (hKp _ _ _ _ _ _ h adr H locs ls hr0)
  | ishr =>
    obtain ⟨hd, hn, ha⟩ := hrow
    have hn : nx = pc + 1 := hn
    subst hn
    obtain ⟨y, r, e1, h⟩ := rz_pi_s h
    subst e1
    obtain ⟨x, r, e1, h⟩ := rz_pi_s h
    subst e1
    exact lv_ishr hx hb hd (hKp _ _ _ _ _ _ h adr H locs ls hr0)
  | iushr =>
    obtain ⟨hd, hn, ha⟩ := hrow
    have hn : nx = pc + 1 := hn
    subst hn
    obtain ⟨y, r, e1, h⟩ := rz_pi_s h
    subst e1
    obtain ⟨x, r, e1, h⟩ := rz_pi_s h
    subst e1
    exact lv_iushr hx hb hd rfl (hKp _ _ _ _ _ _ h adr H locs ls hr0)
  | irem =>
    obtain ⟨hd, hn, ha⟩ := hrow
    have hn : nx = pc + 1 := hn
    subst hn
    obtain ⟨y, r, e1, h⟩ := rz_pi_s h
    subst e1
    obtain ⟨x, r, e1, h⟩ := rz_pi_s h
    subst e1
    exact lv_irem hx hb hd h.1 (hKp _ _ _ _ _ _ h.2 adr H locs ls hr0)
  | ladd =>
    obtain ⟨hd, hn, ha⟩ := hrow
    have hn : nx = pc + 1 := hn
    subst hn
    obtain ⟨y, r, e1, h⟩ := rz_pl_s h
    subst e1
    obtain ⟨x, r, e1, h⟩ := rz_pl_s h
    subst e1
    exact lv_ladd hx hb hd (hKp _ _ _ _ _ _ h adr H locs ls hr0)
  | lsub =>
    obtain ⟨hd, hn, ha⟩ := hrow
    have hn : nx = pc + 1 := hn
    subst hn
    obtain ⟨y, r, e1, h⟩ := rz_pl_s h
    subst e1
    obtain ⟨x, r, e1, h⟩ := rz_pl_s h
    subst e1
    exact lv_lsub hx hb hd (hKp _ _ _ _ _ _ h adr H locs ls hr0)
  | lmul =>
    obtain ⟨hd, hn, ha⟩ := hrow
    have hn : nx = pc + 1 := hn
    subst hn
    obtain ⟨y, r, e1, h⟩ := rz_pl_s h
    subst e1
    obtain ⟨x, r, e1, h⟩ := rz_pl_s h
    subst e1
    exact lv_lmul hx hb hd (hKp _ _ _ _ _ _ h adr H locs ls hr0)
  | lxor =>
    obtain ⟨hd, hn, ha⟩ := hrow
    have hn : nx = pc + 1 := hn
    subst hn
    obtain ⟨y, r, e1, h⟩ := rz_pl_s h
    subst e1
    obtain ⟨x, r, e1, h⟩ := rz_pl_s h
    subst e1
    exact lv_lxor hx hb hd (hKp _ _ _ _ _ _ h adr H locs ls hr0)
  | ldiv =>
    obtain ⟨hd, hn, ha⟩ := hrow
    have hn : nx = pc + 1 := hn
    subst hn
    obtain ⟨y, r, e1, h⟩ := rz_pl_s h
    subst e1
    obtain ⟨x, r, e1, h⟩ := rz_pl_s h
    subst e1
    exact lv_ldiv hx hb hd h.1 (hKp _ _ _ _ _ _ h.2 adr H locs ls hr0)
  | lrem =>
    obtain ⟨hd, hn, ha⟩ := hrow
    have hn : nx = pc + 1 := hn
    subst hn
    obtain ⟨y, r, e1, h⟩ := rz_pl_s h
    subst e1
    obtain ⟨x, r, e1, h⟩ := rz_pl_s h
    subst e1
    exact lv_lrem hx hb hd h.1 (hKp _ _ _ _ _ _ h.2 adr H locs ls hr0)
  | lcmp =>
    obtain ⟨hd, hn, ha⟩ := hrow
    have hn : nx = pc + 1 := hn
    subst hn
    obtain ⟨y, r, e1, h⟩ := rz_pl_s h
    subst e1
    obtain ⟨x, r, e1, h⟩ := rz_pl_s h
    subst e1
    exact W.lcmp hx hb hd (hKp _ _ _ _ _ _ h adr H locs ls hr0)
  | ineg =>
    obtain ⟨hd, hn, ha⟩ := hrow
    have hn : nx = pc + 1 := hn
    subst hn
    obtain ⟨x, r, e1, h⟩ := rz_pi_s h
    subst e1
    exact lv_ineg hx hb hd (hKp _ _ _ _ _ _ h adr H locs ls hr0)
  | lneg =>
    obtain ⟨hd, hn, ha⟩ := hrow
    have hn : nx = pc + 1 := hn
    subst hn
    obtain ⟨x, r, e1, h⟩ := rz_pl_s h
    subst e1
    exact lv_lneg hx hb hd (hKp _ _ _ _ _ _ h adr H locs ls hr0)
  | i2l =>
    obtain ⟨hd, hn, ha⟩ := hrow
    have hn : nx = pc + 1 := hn
    subst hn
    obtain ⟨x, r, e1, h⟩ := rz_pi_s h
    subst e1
    exact lv_i2l hx hb hd rfl (hKp _ _ _ _ _ _ h adr H locs ls hr0)
  | l2i =>
    obtain ⟨hd, hn, ha⟩ := hrow
    have hn : nx = pc + 1 := hn
    subst hn
    obtain ⟨x, r, e1, h⟩ := rz_pl_s h
    subst e1
    exact lv_l2i hx hb hd rfl (hKp _ _ _ _ _ _ h adr H locs ls hr0)
  | dup =>
    obtain ⟨hd, hn, ha⟩ := hrow
    have hn : nx = pc + 1 := hn
    subst hn
    match st, h with
    | .int x :: r, h => exact lv_dup hx hb hd rfl (hKp _ _ _ _ _ _ h adr H locs ls hr0)
    | .ref x :: r, h => exact lv_dup hx hb hd rfl (hKp _ _ _ _ _ _ h adr H locs ls hr0)
  | ifCond cd off =>
    obtain ⟨hd, hn, ha⟩ := hrow
    have hn : nx = pc + 3 := hn
    subst hn
    have ht : (pc : Int) + off = (tg : Int) := ax ha rfl
    obtain ⟨x, r, e1, h⟩ := rz_pi_s h
    subst e1
    cases cd with
    | eq => exact lv_if_eq hx hb hd ht (fun z => hKp _ _ _ _ _ _ (h.1 z) adr H locs ls hr0) (fun z => hKp _ _ _ _ _ _ (h.2 z) adr H locs ls hr0)
    | ne => exact lv_if_ne hx hb hd ht (fun z => hKp _ _ _ _ _ _ (h.2 z) adr H locs ls hr0) (fun z => hKp _ _ _ _ _ _ (h.1 z) adr H locs ls hr0)
    | lt => exact lv_if_lt hx hb hd ht (fun z => hKp _ _ _ _ _ _ (h.1 z) adr H locs ls hr0) (fun z => hKp _ _ _ _ _ _ (h.2 z) adr H locs ls hr0)
    | ge => exact lv_if_ge hx hb hd ht (fun z => hKp _ _ _ _ _ _ (h.1 z) adr H locs ls hr0) (fun z => hKp _ _ _ _ _ _ (h.2 z) adr H locs ls hr0)
    | gt => exact lv_if_gt hx hb hd ht (fun z => hKp _ _ _ _ _ _ (h.1 z) adr H locs ls hr0) (fun z => hKp _ _ _ _ _ _ (h.2 z) adr H locs ls hr0)
    | le => exact lv_if_le hx hb hd ht (fun z => hKp _ _ _ _ _ _ (h.1 z) adr H locs ls hr0) (fun z => hKp _ _ _ _ _ _ (h.2 z) adr H locs ls hr0)
  | if_icmp cd off =>
    obtain ⟨hd, hn, ha⟩ := hrow
    have hn : nx = pc + 3 := hn
    subst hn
    have ht : (pc : Int) + off = (tg : Int) := ax ha rfl
    obtain ⟨y, r, e1, h⟩ := rz_pi_s h
    subst e1
    obtain ⟨x, r, e1, h⟩ := rz_pi_s h
    subst e1
    cases cd with
    | eq => exact lv_icmp_eq hx hb hd ht (fun z => hKp _ _ _ _ _ _ (h.1 z) adr H locs ls hr0) (fun z => hKp _ _ _ _ _ _ (h.2 z) adr H locs ls hr0)
    | ne => exact lv_icmp_ne hx hb hd ht (fun z => hKp _ _ _ _ _ _ (h.2 z) adr H locs ls hr0) (fun z => hKp _ _ _ _ _ _ (h.1 z) adr H locs ls hr0)
    | lt => exact lv_icmp_lt hx hb hd ht (fun z => hKp _ _ _ _ _ _ (h.1 z) adr H locs ls hr0) (fun z => hKp _ _ _ _ _ _ (h.2 z) adr H locs ls hr0)
    | ge => exact lv_icmp_ge hx hb hd ht (fun z => hKp _ _ _ _ _ _ (h.1 z) adr H locs ls hr0) (fun z => hKp _ _ _ _ _ _ (h.2 z) adr H locs ls hr0)
    | gt => exact lv_icmp_gt hx hb hd ht (fun z => hKp _ _ _ _ _ _ (h.1 z) adr H locs ls hr0) (fun z => hKp _ _ _ _ _ _ (h.2 z) adr H locs ls hr0)
    | le => exact lv_icmp_le hx hb hd ht (fun z => hKp _ _ _ _ _ _ (h.1 z) adr H locs ls hr0) (fun z => hKp _ _ _ _ _ _ (h.2 z) adr H locs ls hr0)
  | goto off =>
    obtain ⟨hd, hn, ha⟩ := hrow
    have ha : (pc : Int) + off = (tg : Int) := ax ha rfl
    exact lv_goto hx hb hd ha (hKp _ _ _ _ _ _ h adr H locs ls hr0)
  | tableswitch d lo hi offs =>
    obtain ⟨⟨len, hd⟩, h1, h2, h3⟩ := hrow
    obtain ⟨x, r, e1, h⟩ := rz_pi_s h
    subst e1
    have h3 : ∀ (j : Nat) (v : Int32) (t : Nat), sw[j]? = some (v, t) → ∃ off, offs[j]? = some off ∧ v.toInt = lo + j ∧ (pc : Int) + off = (t : Int) := by
      intro j v t hj
      have hjl : j < sw.length := (List.getElem?_eq_some_iff.mp hj).1
      have h4 := List.all_eq_true.mp h3 j (List.mem_range.mpr hjl)
      rw [hj] at h4
      cases ho : offs[j]? with
      | none => rw [ho] at h4; cases h4
      | some off =>
        rw [ho] at h4
        exact ⟨off, rfl, of_decide_eq_true h4⟩
    rcases rz_sw_s h with ⟨j, t, hj, hKt⟩ | ⟨hno, hKd⟩
    · obtain ⟨off, o1, o2, o3⟩ := h3 j x t hj
      have hjl : j < sw.length := (List.getElem?_eq_some_iff.mp hj).1
      refine lv_tableIn hx hb hd (by omega) (by omega) (off := off) ?_ o3 (hKp _ _ _ _ _ _ hKt adr H locs ls hr0)
      rw [o2, show lo + (j : Int) - lo = (j : Int) by omega]
      exact o1
    · refine lv_tableOut hx hb hd ?_ h1 (hKp _ _ _ _ _ _ hKd adr H locs ls hr0)
      by_cases z1 : x.toInt < lo
      · exact Or.inl z1
      · by_cases z2 : hi < x.toInt
        · exact Or.inr z2
        · exfalso
          have hjl : (x.toInt - lo).toNat < sw.length := by omega
          obtain ⟨off, o1, o2, o3⟩ := h3 (x.toInt - lo).toNat (sw[(x.toInt - lo).toNat]).1 (sw[(x.toInt - lo).toNat]).2 (List.getElem?_eq_getElem hjl)
          refine hno _ (List.getElem_mem hjl) (Int32.toInt_inj.mp ?_)
          rw [o2]
          omega
  | getfield ix =>
    obtain ⟨hd, hn, ha⟩ := hrow
    have hn : nx = pc + 3 := hn
    subst hn
    obtain ⟨a, r, e1, h⟩ := rz_pr_s h
    subst e1
    obtain ⟨q, hq, h⟩ := rz_op_s h
    obtain ⟨fs, hfs, h⟩ := rz_ob_s h
    obtain ⟨v, hv, h⟩ := rz_op_s h
    obtain ⟨C, T, N, g1, g2, g3, g4, -, -, -⟩ := hfld ix q hq
    have hv2 : (fs.map (rz_v adr))[q.2.1]? = some (rz_v adr v) := by rw [List.getElem?_map, hv]; rfl
    rcases g4 with g4 | g4
    · exact va_get (ci := q.1) (v := rz_v adr v) (C := C) (T := T) (N := N) hx hb hts g2 hown hK hP (rz_pos w a) (rz_get_pos hfs) g1 q.2.1 g3 g4 (fun _ h9 => h9) hv2 hd (hKp _ _ _ _ _ _ h adr H locs ls hr0)
    · exact va_getN (ci := q.1) (v := rz_v adr v) (C := C) (T := T) (N := N) hx hb hts g2 hown hK hP (rz_pos w a) (rz_get_pos hfs) g1 q.2.1 g3 g4 (fun _ h9 => h9) hv2 hd (hKp _ _ _ _ _ _ h adr H locs ls hr0)
  | putfield ix =>
    obtain ⟨hd, hn, ha⟩ := hrow
    have hn : nx = pc + 3 := hn
    subst hn
    obtain ⟨x, r, e1, h⟩ := rz_pi_s h
    subst e1
    obtain ⟨a, r, e1, h⟩ := rz_pr_s h
    subst e1
    obtain ⟨q, hq, h⟩ := rz_op_s h
    obtain ⟨fs, hfs, h⟩ := rz_ob_s h
    obtain ⟨hlt, h⟩ := rz_if_s h
    have hlt := (Bool.and_eq_true _ _).mp hlt
    obtain ⟨C, T, N, g1, g2, g3, g4, ⟨ty, g5⟩, g6, g7⟩ := hfld ix q hq
    obtain ⟨g8, g9⟩ := g7 hlt.1
    have hlen : q.2.1 < (fs.map (rz_v adr)).length := by
      rw [List.length_map]
      have h9 := hlt.2
      exact Nat.le_of_ble_eq_true h9
    have hset : ((fs.map (rz_v adr)).set q.2.1 (Value.int x)) = (fs.set q.2.1 (.int x)).map (rz_v adr) := by rw [List.map_set]; rfl
    have kk : ∀ (H1 : Heap) (locs1 : List Loc), va_P D vwCl ((rz_c cI cJ adr w).set (rz_pos w a) (adr a, .inr (q.1, (fs.map (rz_v adr)).set q.2.1 (Value.int x)))) H1 → va_D A ((rz_c cI cJ adr w).set (rz_pos w a) (adr a, .inr (q.1, (fs.map (rz_v adr)).set q.2.1 (Value.int x)))) → va_S A s.heap H1 locs1 → W p l e R s m args below meth c H1 locs1 cs sl QQ (F0 m (pc + 3) ls (r.map (rz_v adr))) := by
      intro H1 locs1 k1 k2 k3
      have e2 : (rz_c cI cJ adr w).set (rz_pos w a) (adr a, .inr (q.1, (fs.map (rz_v adr)).set q.2.1 (Value.int x))) = rz_c cI cJ adr (rz_set w a (.inl (q.1, fs.set q.2.1 (.int x)))) := by
        rw [hset]
        exact rz_set_pos (y := .inl (q.1, fs.set q.2.1 (.int x))) hfs
      rw [e2] at k1
      exact hKp _ _ _ _ _ _ h adr H1 locs1 ls ⟨k1, by rw [rz_set_keys]; exact hD, k3, hl, hk, by rw [rz_set_keys]; exact hex, hc1, hc2⟩
    rcases g4 with g4 | g4
    · exact va_put (ci := q.1) (v := .int x) (ty := .int) (C := C) (T := T) (N := N) hx hb hts g2 ty g5 g6 hown hK hP hD.va hS (rz_pos w a) (rz_get_pos hfs) g1 q.2.1 g3 g4 (fun _ h9 => h9) g8 g9 rfl rfl hlen hd kk
    · exact va_putN (ci := q.1) (v := .int x) (ty := .int) (C := C) (T := T) (N := N) hx hb hts g2 ty g5 g6 hown hK hP hD.va hS (rz_pos w a) (rz_get_pos hfs) g1 q.2.1 g3 g4 (fun _ h9 => h9) g8 g9 rfl rfl hlen hd kk
  | iaload =>
    obtain ⟨hd, hn, ha⟩ := hrow
    have hn : nx = pc + 1 := hn
    subst hn
    obtain ⟨j, r, e1, h⟩ := rz_pi_s h
    subst e1
    obtain ⟨a, r, e1, h⟩ := rz_pr_s h
    subst e1
    obtain ⟨n, f, hg, h1, h⟩ := rz_ai_s h
    exact va_iald hx hb hK hP (rz_pos w a) 0 (rz_get_pos hg) rfl h1 hd (hKp _ _ _ _ _ _ h adr H locs ls hr0)
  | laload =>
    obtain ⟨hd, hn, ha⟩ := hrow
    have hn : nx = pc + 1 := hn
    subst hn
    obtain ⟨j, r, e1, h⟩ := rz_pi_s h
    subst e1
    obtain ⟨a, r, e1, h⟩ := rz_pr_s h
    subst e1
    obtain ⟨n, f, hg, h1, h⟩ := rz_al_s h
    exact va_lald hx hb hK hP (rz_pos w a) 1 (rz_get_pos hg) rfl h1 hd (hKp _ _ _ _ _ _ h adr H locs ls hr0)
  | iastore =>
    obtain ⟨hd, hn, ha⟩ := hrow
    have hn : nx = pc + 1 := hn
    subst hn
    obtain ⟨x, r, e1, h⟩ := rz_pi_s h
    subst e1
    obtain ⟨j, r, e1, h⟩ := rz_pi_s h
    subst e1
    obtain ⟨a, r, e1, h⟩ := rz_pr_s h
    subst e1
    obtain ⟨n, f, hg, h1, h⟩ := rz_ai_s h
    refine va_iast hx hb hK hP hD.va hS (rz_pos w a) 0 (rz_get_pos hg) rfl h1 hd (fun H1 locs1 k1 k2 k3 => ?_)
    have e2 := rz_set_pos (cI := cI) (cJ := cJ) (adr := adr) (y := .inr (.inl (n, upd f j.toNatClampNeg x))) hg
    have k1 : va_P D vwCl ((rz_c cI cJ adr w).set (rz_pos w a) (adr a, rz_e cI cJ adr (.inr (.inl (n, upd f j.toNatClampNeg x))))) H1 := k1
    rw [e2] at k1
    exact hKp _ _ _ _ _ _ h adr H1 locs1 ls ⟨k1, by rw [rz_set_keys]; exact hD, k3, hl, hk, by rw [rz_set_keys]; exact hex, hc1, hc2⟩
  | lastore =>
    obtain ⟨hd, hn, ha⟩ := hrow
    have hn : nx = pc + 1 := hn
    subst hn
    obtain ⟨x, r, e1, h⟩ := rz_pl_s h
    subst e1
    obtain ⟨j, r, e1, h⟩ := rz_pi_s h
    subst e1
    obtain ⟨a, r, e1, h⟩ := rz_pr_s h
    subst e1
    obtain ⟨n, f, hg, h1, h⟩ := rz_al_s h
    refine va_last hx hb hK hP hD.va hS (rz_pos w a) 1 (rz_get_pos hg) rfl h1 hd (fun H1 locs1 k1 k2 k3 => ?_)
    have e2 := rz_set_pos (cI := cI) (cJ := cJ) (adr := adr) (y := .inr (.inr (n, vp_updL f j.toNatClampNeg x))) hg
    have k1 : va_P D vwCl ((rz_c cI cJ adr w).set (rz_pos w a) (adr a, rz_e cI cJ adr (.inr (.inr (n, vp_updL f j.toNatClampNeg x))))) H1 := k1
    rw [e2] at k1
    exact hKp _ _ _ _ _ _ h adr H1 locs1 ls ⟨k1, by rw [rz_set_keys]; exact hD, k3, hl, hk, by rw [rz_set_keys]; exact hex, hc1, hc2⟩
  | arraylength =>
    obtain ⟨hd, hn, ha⟩ := hrow
    have hn : nx = pc + 1 := hn
    subst hn
    obtain ⟨a, r, e1, h⟩ := rz_pr_s h
    subst e1
    obtain ⟨n, f, hg, h⟩ := rz_ai_s h
    exact va_alen hx hb hK hP (rz_pos w a) 0 (rz_get_pos hg) (ty := .int) rfl rfl hd (hKp _ _ _ _ _ _ h adr H locs ls hr0)
  | newarray at1 =>
    obtain ⟨hd, hn, ha⟩ := hrow
    have hn : nx = pc + 2 := hn
    subst hn
    obtain ⟨ha1, ha2, ha3, ha4⟩ : at1 = .int ∧ ¬ ci < 0 ∧ ci.toNatClampNeg = na ∧ na ≤ 10000 := ax ha rfl
    subst ha1
    obtain ⟨x, r, e1, h⟩ := rz_pi_s h
    subst e1
    obtain ⟨hno, hx1, hcs, hsl, h5⟩ := rz_if_s h
    subst hx1
    have hno := (Bool.and_eq_true _ _).mp hno
    have hno2 := (Bool.and_eq_true _ _).mp hno.2
    refine va_newa (atype := .int) (ty := .int) (a0 := (na, .inl (fun _ => 0))) hx hb (hts _ rz_arrI) rfl hK hP hD.va hS hA (fun _ => rfl) ha2 ha3 (by show na * 4 ≤ 536870912; omega) (Nat.le_trans hcs hR.1) (Nat.le_trans hsl hR.2) hd (fun q cA H1 k0 k1 k2 k3 => ?_)
    have hcA : cA = cI := by
      have f1 := va_nm_int (k0.2 2 (cA, .int) rfl).2
      have f2 := va_nm_int (hK.2 0 (cI, .int) rfl).2
      rw [f1] at f2
      exact Option.some.inj f2
    subst hcA
    have ew := rz_noW_c (cI := cA) (cJ := cJ) (adr := adr) (q := q) hno2.2
    have e3 : rz_c cA cJ adr w ++ [(q, .inl (cA, (na, .inl (fun _ => 0))))] = rz_c cA cJ (rz_ad adr tg q) (w ++ [(tg, .inr (.inl (na, fun _ => 0)))]) := by
      unfold rz_c
      rw [List.map_append]
      have := ew.1
      unfold rz_c at this
      rw [this]
      show _ ++ [(q, _)] = _ ++ [(rz_ad adr tg q tg, _)]
      rw [rz_ad_s]
      rfl
    rw [e3] at k1 k2
    have e4 : (Value.ref q :: r.map (rz_v adr)) = (Value.ref tg :: r).map (rz_v (rz_ad adr tg q)) := by
      show Value.ref q :: r.map (rz_v adr) = Value.ref (rz_ad adr tg q tg) :: r.map (rz_v (rz_ad adr tg q))
      rw [rz_ad_s, rz_noL_v hno2.1]
    refine W.eq (g2 := F0 m (pc + 2) ls ((Value.ref tg :: r).map (rz_v (rz_ad adr tg q)))) (by rw [← e4]) ?_
    refine hKp _ _ _ _ _ _ h5 (rz_ad adr tg q) H1 locs ls ⟨k1, rz_D.of_va k2, k3, by rw [rz_noV_v hno.1]; exact hl, fun k hk9 => ?_, ?_, hcs, hsl⟩
    · have hkw : k ∈ w.map Prod.fst := by
        obtain ⟨ex, h1, -, -⟩ := hex
        rw [h1]
        exact List.mem_append_left _ hk9
      rw [rz_ad_n (fun z => ew.2 (by rw [← z]; exact hkw))]
      exact hk k hk9
    · obtain ⟨ex, h1, h2, h3⟩ := hex
      refine ⟨ex ++ [tg], by rw [List.map_append, h1, List.append_assoc]; rfl, by rw [List.length_append]; exact Nat.add_le_add_right h2 1, fun k hk8 => ?_⟩
      have hk7 : k ≠ tg := fun z => hk8 (List.mem_append_right _ (by rw [z]; exact List.mem_cons_self))
      rw [rz_ad_n hk7]
      exact h3 k (fun z => hk8 (List.mem_append_left _ z))
  | ireturn =>
    obtain ⟨hd, hn, ha⟩ := hrow
    have ha : ret = some (if bz then .boolean else .int) := ax ha rfl
    obtain ⟨x, r, e1, h⟩ := rz_pi_s h
    subst e1
    have fin : Q (some (.int x)) w → r = [] → narrow (if bz then .boolean else .int) (.int x) = .int x → W p l e R s m args below meth c H locs cs sl QQ (F0 m pc ls ((Value.int x :: r).map (rz_v adr))) := by
      intro hq hr1 hnr
      subst hr1
      obtain ⟨f1, f2⟩ := hfin adr lv w cs sl H locs ls _ hr0 hq
      exact W.widen hc1 hc2 (hQQ _ _ _ (W.zret hx hb (hr.trans ha) hnr f2 f1 hd hlocks))
    match r, bz, h with
    | [], false, h => exact fin h rfl rfl
    | [], true, h =>
      refine fin h.2 rfl ?_
      rcases h.1 with z | z <;> rw [z] <;> decide
  | lreturn =>
    obtain ⟨hd, hn, ha⟩ := hrow
    have ha : ret = some .long := ax ha rfl
    obtain ⟨x, r, e1, h⟩ := rz_pl_s h
    subst e1
    match r, h with
    | [], h =>
      obtain ⟨f1, f2⟩ := hfin adr lv w cs sl H locs ls _ hr0 h
      exact W.widen hc1 hc2 (hQQ _ _ _ (W.lret hx hb (hr.trans ha) f2 f1 hd hlocks))
  | return_ =>
    obtain ⟨hd, hn, ha⟩ := hrow
    have ha : ret = none := ax ha rfl
    match st, h with
    | [], h =>
      obtain ⟨f1, f2⟩ := hfin adr lv w cs sl H locs ls _ hr0 h
      exact W.widen hc1 hc2 (hQQ _ _ _ (W.vret hx hb (hr.trans ha) f2 f1 hd hlocks))
  | invokestatic ix =>
    obtain ⟨hd, hn, ha⟩ := hrow
    have hn : nx = pc + 3 := hn
    subst hn
    obtain ⟨ce, hq, h⟩ := rz_op_s h
    exact callk (hcal ix ce hq) hd h
  | invokevirtual ix =>
    obtain ⟨hd, hn, ha⟩ := hrow
    have hn : nx = pc + 3 := hn
    subst hn
    obtain ⟨ce, hq, h⟩ := rz_op_s h
    exact callk (hcav ix ce hq) hd h
  | _ => exact h.elim
end RZS
end
section
/-! Rows and fields by program. -/
/-- the fields that a class's methods name by pool numbers -/
def rz_Fld (own : String) (fld : List (Nat × Nat × Nat × Bool)) : Prop := ∀ (s : State) (args : Array Value), (∀ w ∈ bw, w.before args s = true) → rz_NW s → ∀ ix q, rz_get fld ix = some q → rz_FOK own s args ix q
/-- a method's own words -/
def rz_MW (y : MethodName) (cc : ByteArray) (nL : Nat) (ret : Option FieldType) (n : Nat) : Prop := Cond.code y cc nL ret ∈ bw ∧ Cond.initialized y.cls ∈ bw ∧ y.cls ≠ "java/lang/invoke/MethodHandle" ∧ y.cls ≠ "java/lang/invoke/VarHandle" ∧ (parseMethodDescriptor y.desc).map (fun d => d.parameters.length) = some n
def rz_rowb (own : String) (cc : ByteArray) (nL : Nat) (ret : Option FieldType) (bz : Bool) (sw : List (Int32 × Nat)) (pc : Nat) (q : rz_I) : Bool := match q.1 with
  | .tableswitch d lo hi offs => decide (decode cc pc = .ok (.tableswitch d lo hi offs, q.2.1 - pc)) && decide ((pc : Int) + d = (q.2.2.1 : Int)) && decide (lo + sw.length = hi + 1) && (List.range sw.length).all (fun j => match sw[j]?, offs[j]? with
    | some (v, t), some off => decide (v.toInt = lo + j ∧ (pc : Int) + off = (t : Int))
    | _, _ => false)
  | i => decide (decode cc pc = .ok (i, rz_len i)) && decide (q.2.1 = pc + rz_len i) && rz_aux own nL ret bz i pc q.2.2.1 q.2.2.2.1 q.2.2.2.2.1 q.2.2.2.2.2
theorem rz_rowb_ok {own : String} {cc : ByteArray} {nL : Nat} {ret : Option FieldType} {bz : Bool} {sw : List (Int32 × Nat)} {pc : Nat} {q : rz_I} (h : rz_rowb own cc nL ret bz sw pc q = true) : rz_row own cc nL ret bz sw pc q := by
  obtain ⟨i, nx, tg, na, ci, cl⟩ := q
  cases i with
  | tableswitch d lo hi offs =>
    have h := (Bool.and_eq_true _ _).mp h
    have h1 := (Bool.and_eq_true _ _).mp h.1
    have h2 := (Bool.and_eq_true _ _).mp h1.1
    exact ⟨⟨_, of_decide_eq_true h2.1⟩, of_decide_eq_true h2.2, of_decide_eq_true h1.2, h.2⟩
  | _ =>
    have h := (Bool.and_eq_true _ _).mp h
    have h1 := (Bool.and_eq_true _ _).mp h.1
    exact ⟨of_decide_eq_true h1.1, of_decide_eq_true h1.2, h.2⟩
theorem rz_rows {own : String} {cc : ByteArray} {nL : Nat} {ret : Option FieldType} {bz : Bool} {sw : List (Int32 × Nat)} {cod : List (Nat × rz_I)} (h : cod.all (fun q => rz_rowb own cc nL ret bz sw q.1 q.2) = true) : ∀ q ∈ cod, rz_row own cc nL ret bz sw q.1 q.2 := fun q hq => rz_rowb_ok (List.all_eq_true.mp h q hq)
def rz_fchk (own : String) (z : (Nat × Nat × Nat × Bool) × Nat) : Bool := match vwCl[z.1.2.1]? with
  | some (_, T, N) => decide (z.1.2.2.1 < N) && (decide (tables_1[z.2]? = some (.fieldLink own z.1.1 (T z.1.2.2.1).1 (T z.1.2.2.1).2.1 (T z.1.2.2.1).2.2.1)) || decide (tables_1[z.2]? = some (.fieldLinkNest own z.1.1 (T z.1.2.2.1).1 (T z.1.2.2.1).2.1 (T z.1.2.2.1).2.2.1 "CoastWatch"))) && (!z.1.2.2.2 || (decide ((T z.1.2.2.1).2.2.2 = false) && decide (parseFieldDescriptor (T z.1.2.2.1).2.2.1 = some .int)))
  | none => false
def rz_Cls : Prop := ∀ (ci : Nat) (C : String) (T : u_T) (N : Nat), vwCl[ci]? = some (C, T, N) → (∀ w ∈ u_ws C T N, w ∈ bw) ∧ (∃ ty : Nat → FieldType, ∀ k, k < N → parseFieldDescriptor (T k).2.2.1 = some (ty k)) ∧ ∀ a, a < N → ∀ b, b < N → a ≠ b → (T a).2.1 ≠ (T b).2.1
theorem rz_fldOf (hcls : rz_Cls) {own : String} {fld : List (Nat × Nat × Nat × Bool)} (hints : List Nat) (hlen : hints.length = fld.length) (h : (fld.zip hints).all (rz_fchk own) = true) : rz_Fld own fld := by
  intro s args hts hnw ix q hq
  have hm := rz_get_mem hq
  obtain ⟨j, hj⟩ := List.getElem?_of_mem hm
  have hjl : j < fld.length := (List.getElem?_eq_some_iff.mp hj).1
  have hz : ((ix, q), hints[j]'(by omega)) ∈ fld.zip hints := by
    refine List.mem_of_getElem? (i := j) ?_
    rw [List.getElem?_zip_eq_some]
    exact ⟨hj, List.getElem?_eq_getElem (by omega)⟩
  have h1 := List.all_eq_true.mp h _ hz
  unfold rz_fchk at h1
  split at h1
  · rename_i C T N hv
    have h2 := (Bool.and_eq_true _ _).mp h1
    have h3 := (Bool.and_eq_true _ _).mp h2.1
    obtain ⟨c1, c2, c3⟩ := hcls q.1 C T N hv
    refine ⟨C, T, N, hv, c1, of_decide_eq_true h3.1, ?_, c2, c3, fun hb => ?_⟩
    · rcases (Bool.or_eq_true _ _).mp h3.2 with z | z
      · exact Or.inl (hts _ (bw_t _ (of_decide_eq_true z) rfl))
      · exact Or.inr (va_Nw.use rfl (hnw _ (List.mem_of_getElem? (of_decide_eq_true z)) rfl))
    · have h4 := h2.2
      rw [hb] at h4
      have h5 := (Bool.and_eq_true _ _).mp (show (decide ((T q.2.1).2.2.2 = false) && decide (parseFieldDescriptor (T q.2.1).2.2.1 = some .int)) = true from h4)
      exact ⟨of_decide_eq_true h5.1, of_decide_eq_true h5.2⟩
  · cases h1
end
section
/-! Fields and classes: by program out of the tables. -/
theorem cu_X0 : ∀ w ∈ u_ws RX0 TX0 8, w ∈ bw := bw_ts _ [203, 205, 207, 209, 211, 213, 215, 217] (by decide +kernel) (by decide +kernel)
theorem cu_X1 : ∀ w ∈ u_ws RX1 TX1 5, w ∈ bw := bw_ts _ [234, 236, 238, 240, 242] (by decide +kernel) (by decide +kernel)
theorem cu_X2 : ∀ w ∈ u_ws RX2 TX2 9, w ∈ bw := bw_ts _ [48, 50, 52, 54, 56, 58, 60, 62, 64] (by decide +kernel) (by decide +kernel)
theorem cu_X3 : ∀ w ∈ u_ws RX3 TX3 12, w ∈ bw := bw_ts _ [161, 163, 165, 167, 169, 171, 173, 175, 177, 179, 181, 183] (by decide +kernel) (by decide +kernel)
theorem cu_X4 : ∀ w ∈ u_ws RX4 TX4 10, w ∈ bw := bw_ts _ [118, 120, 122, 124, 126, 128, 130, 132, 134, 136] (by decide +kernel) (by decide +kernel)
theorem cu_X5 : ∀ w ∈ u_ws RX5 TX5 8, w ∈ bw := bw_ts _ [84, 86, 88, 90, 92, 94, 96, 98] (by decide +kernel) (by decide +kernel)
theorem cu_X6 : ∀ w ∈ u_ws RX6 TX6 7, w ∈ bw := bw_ts _ [252, 254, 256, 258, 260, 262, 264] (by decide +kernel) (by decide +kernel)
theorem cu_X7 : ∀ w ∈ u_ws RX7 TX7 35, w ∈ bw := bw_ts _ [716, 718, 720, 722, 724, 726, 728, 730, 732, 734, 736, 738, 740, 742, 744, 746, 748, 750, 752, 754, 756, 758, 760, 762, 764, 766, 768, 770, 772, 774, 776, 778, 780, 782, 784] (by decide +kernel) (by decide +kernel)
theorem rz_cls : rz_Cls := by
  intro ci C T N h
  match ci, h with
  | 0, h => cases h; exact ⟨cu_X0, ⟨tyX0, tyX0_ok⟩, nmX0⟩
  | 1, h => cases h; exact ⟨cu_X1, ⟨tyX1, tyX1_ok⟩, nmX1⟩
  | 2, h => cases h; exact ⟨cu_X2, ⟨tyX2, tyX2_ok⟩, nmX2⟩
  | 3, h => cases h; exact ⟨cu_X3, ⟨tyX3, tyX3_ok⟩, nmX3⟩
  | 4, h => cases h; exact ⟨cu_X4, ⟨tyX4, tyX4_ok⟩, nmX4⟩
  | 5, h => cases h; exact ⟨cu_X5, ⟨tyX5, tyX5_ok⟩, nmX5⟩
  | 6, h => cases h; exact ⟨cu_X6, ⟨tyX6, tyX6_ok⟩, nmX6⟩
  | 7, h => cases h; exact ⟨cu_X7, ⟨tyX7, tyX7_ok⟩, nmX7⟩
  | k + 8, h => simp [vwCl] at h
def fl_X0 : List (Nat × Nat × Nat × Bool) := [(9, 0, 0, false), (15, 0, 1, false), (18, 0, 2, false), (21, 0, 3, false), (24, 0, 4, false), (27, 0, 5, false), (30, 0, 6, true), (34, 0, 7, true)]
theorem fo_X0 : rz_Fld RX0 fl_X0 := rz_fldOf rz_cls [192, 193, 194, 195, 196, 197, 199, 200] rfl (by decide +kernel)
def fl_X1 : List (Nat × Nat × Nat × Bool) := [(9, 1, 0, false), (15, 1, 1, false), (18, 1, 2, false), (21, 1, 3, false), (24, 1, 4, true), (42, 0, 7, true)]
theorem fo_X1 : rz_Fld RX1 fl_X1 := rz_fldOf rz_cls [227, 229, 230, 231, 232, 201] rfl (by decide +kernel)
def fl_X2 : List (Nat × Nat × Nat × Bool) := [(9, 2, 0, false), (15, 2, 1, false), (18, 2, 2, false), (21, 2, 3, false), (24, 2, 4, false), (27, 2, 5, false), (30, 2, 6, false), (33, 2, 7, true), (37, 2, 8, true)]
theorem fo_X2 : rz_Fld RX2 fl_X2 := rz_fldOf rz_cls [34, 36, 38, 39, 40, 41, 43, 44, 46] rfl (by decide +kernel)
def fl_X3 : List (Nat × Nat × Nat × Bool) := [(9, 3, 0, false), (15, 3, 1, false), (18, 3, 2, false), (21, 3, 3, false), (24, 3, 4, false), (27, 3, 5, false), (30, 3, 6, false), (33, 3, 7, false), (36, 3, 8, false), (39, 3, 9, true), (43, 3, 10, true), (46, 3, 11, true)]
theorem fo_X3 : rz_Fld RX3 fl_X3 := rz_fldOf rz_cls [146, 147, 148, 149, 150, 151, 152, 153, 154, 155, 157, 159] rfl (by decide +kernel)
def fl_X4 : List (Nat × Nat × Nat × Bool) := [(11, 4, 0, false), (15, 4, 1, false), (18, 4, 2, false), (21, 4, 3, false), (24, 4, 4, false), (27, 4, 5, false), (30, 4, 6, false), (33, 4, 7, false), (36, 4, 8, false), (39, 4, 9, true)]
theorem fo_X4 : rz_Fld RX4 fl_X4 := rz_fldOf rz_cls [107, 108, 109, 110, 111, 112, 113, 114, 115, 116] rfl (by decide +kernel)
def fl_X5 : List (Nat × Nat × Nat × Bool) := [(9, 5, 0, false), (15, 5, 1, false), (18, 5, 2, false), (21, 5, 3, false), (24, 5, 4, false), (27, 5, 5, false), (30, 5, 6, false), (33, 5, 7, true)]
theorem fo_X5 : rz_Fld RX5 fl_X5 := rz_fldOf rz_cls [74, 75, 76, 78, 79, 80, 81, 82] rfl (by decide +kernel)
def fl_X6 : List (Nat × Nat × Nat × Bool) := [(10, 6, 0, false), (19, 6, 1, false), (26, 6, 2, false), (33, 6, 3, false), (40, 6, 4, false), (47, 6, 5, false), (51, 6, 6, true), (75, 2, 5, false), (96, 2, 0, false), (99, 2, 1, false), (112, 4, 9, true), (128, 5, 2, false), (134, 3, 11, true), (156, 0, 5, false), (162, 1, 0, false), (170, 2, 7, true), (173, 2, 8, true), (176, 5, 7, true), (179, 3, 9, true), (180, 3, 10, true), (183, 0, 7, true), (184, 1, 4, true)]
theorem fo_X6 : rz_Fld RX6 fl_X6 := rz_fldOf rz_cls [245, 246, 247, 248, 249, 250, 251, 42, 35, 37, 117, 77, 160, 198, 228, 45, 47, 83, 156, 158, 202, 233] rfl (by decide +kernel)
def fl_X7 : List (Nat × Nat × Nat × Bool) := [(9, 7, 1, false), (13, 7, 2, false), (16, 7, 3, false), (19, 7, 4, false), (22, 7, 5, false), (25, 7, 6, false), (28, 7, 16, true), (32, 7, 17, false), (35, 7, 18, false), (38, 7, 19, false), (41, 7, 20, false), (44, 7, 21, false), (47, 7, 22, false), (50, 7, 23, false), (53, 7, 24, false), (56, 7, 25, false), (59, 7, 26, false), (62, 7, 27, false), (66, 7, 28, false), (69, 7, 29, false), (72, 7, 30, false), (75, 7, 31, false), (78, 7, 32, false), (81, 7, 34, false), (84, 7, 0, true), (91, 7, 7, true), (98, 7, 8, true), (113, 7, 10, true), (116, 7, 9, true), (131, 7, 33, true), (175, 7, 11, true), (178, 7, 12, true), (188, 7, 13, true), (193, 7, 14, true), (210, 7, 15, true)]
theorem fo_X7 : rz_Fld RX7 fl_X7 := rz_fldOf rz_cls [682, 683, 684, 685, 686, 687, 697, 698, 699, 700, 701, 702, 703, 704, 705, 706, 707, 708, 709, 710, 711, 712, 713, 715, 681, 688, 689, 691, 690, 714, 692, 693, 694, 695, 696] rfl (by decide +kernel)
def fl_J6 : List (Nat × Nat × Nat × Bool) := []
theorem fo_J6 : rz_Fld RJ6 fl_J6 := fun _ _ _ _ ix q h => by cases h
def fl_J7 : List (Nat × Nat × Nat × Bool) := []
theorem fo_J7 : rz_Fld RJ7 fl_J7 := fun _ _ _ _ ix q h => by cases h
def fl_J9 : List (Nat × Nat × Nat × Bool) := []
theorem fo_J9 : rz_Fld RJ9 fl_J9 := fun _ _ _ _ ix q h => by cases h
def fl_J13 : List (Nat × Nat × Nat × Bool) := []
theorem fo_J13 : rz_Fld RJ13 fl_J13 := fun _ _ _ _ ix q h => by cases h
end
section
/-! Tables of instructions, words of methods: by program. -/
def k_J13_compare_74951 : List (Nat × rz_I) := [(0, .lload_n 0, 1, 0, 0, 0, 0), (1, .lload_n 2, 2, 2, 0, 0, 0), (2, .lcmp, 3, 0, 0, 0, 0), (3, .ifCond .ge 7, 6, 10, 0, 0, 0), (6, .iconst (-1), 7, 0, 0, (-1), 0), (7, .goto 14, 10, 21, 0, 0, 0), (10, .lload_n 0, 11, 0, 0, 0, 0), (11, .lload_n 2, 12, 2, 0, 0, 0), (12, .lcmp, 13, 0, 0, 0, 0), (13, .ifCond .ne 7, 16, 20, 0, 0, 0), (16, .iconst 0, 17, 0, 0, 0, 0), (17, .goto 4, 20, 21, 0, 0, 0), (20, .iconst 1, 21, 0, 0, 1, 0), (21, .ireturn, 22, 0, 0, 0, 0)]
def s_J13_compare_74951 : List (Int32 × Nat) := []
theorem r_J13_compare_74951 : ∀ q ∈ k_J13_compare_74951, rz_row yJ13_compare_74951.cls cJ13_compare_74951 4 (some .int) false s_J13_compare_74951 q.1 q.2 := rz_rows (by decide +kernel)
theorem m_J13_compare_74951 : rz_MW yJ13_compare_74951 cJ13_compare_74951 4 (some .int) 2 := ⟨bw_t 410 (by decide +kernel) rfl, bw_t 11 (by decide +kernel) rfl, by decide +kernel, by decide +kernel, by decide +kernel⟩
theorem t_J13_compare_74951 : Cond.static yJ13_compare_74951 ∈ bw := bw_t 409 (by decide +kernel) rfl
def k_J6_bitCount_0f7a4 : List (Nat × rz_I) := [(0, .iload_n 0, 1, 0, 0, 0, 0), (1, .iload_n 0, 2, 0, 0, 0, 0), (2, .iconst 1, 3, 0, 0, 1, 0), (3, .iushr, 4, 0, 0, 0, 0), (4, .ldc_w 265, 7, 0, 329, 1431655765, 0), (7, .iand, 8, 0, 0, 0, 0), (8, .isub, 9, 0, 0, 0, 0), (9, .istore_n 0, 10, 0, 0, 0, 0), (10, .iload_n 0, 11, 0, 0, 0, 0), (11, .ldc_w 266, 14, 0, 330, 858993459, 0), (14, .iand, 15, 0, 0, 0, 0), (15, .iload_n 0, 16, 0, 0, 0, 0), (16, .iconst 2, 17, 0, 0, 2, 0), (17, .iushr, 18, 0, 0, 0, 0), (18, .ldc_w 266, 21, 0, 330, 858993459, 0), (21, .iand, 22, 0, 0, 0, 0), (22, .iadd, 23, 0, 0, 0, 0), (23, .istore_n 0, 24, 0, 0, 0, 0), (24, .iload_n 0, 25, 0, 0, 0, 0), (25, .iload_n 0, 26, 0, 0, 0, 0), (26, .iconst 4, 27, 0, 0, 4, 0), (27, .iushr, 28, 0, 0, 0, 0), (28, .iadd, 29, 0, 0, 0, 0), (29, .ldc_w 267, 32, 0, 331, 252645135, 0), (32, .iand, 33, 0, 0, 0, 0), (33, .istore_n 0, 34, 0, 0, 0, 0), (34, .iload_n 0, 35, 0, 0, 0, 0), (35, .iload_n 0, 36, 0, 0, 0, 0), (36, .bipush 8, 38, 0, 0, 8, 0), (38, .iushr, 39, 0, 0, 0, 0), (39, .iadd, 40, 0, 0, 0, 0), (40, .istore_n 0, 41, 0, 0, 0, 0), (41, .iload_n 0, 42, 0, 0, 0, 0), (42, .iload_n 0, 43, 0, 0, 0, 0), (43, .bipush 16, 45, 0, 0, 16, 0), (45, .iushr, 46, 0, 0, 0, 0), (46, .iadd, 47, 0, 0, 0, 0), (47, .istore_n 0, 48, 0, 0, 0, 0), (48, .iload_n 0, 49, 0, 0, 0, 0), (49, .bipush 63, 51, 0, 0, 63, 0), (51, .iand, 52, 0, 0, 0, 0), (52, .ireturn, 53, 0, 0, 0, 0)]
def s_J6_bitCount_0f7a4 : List (Int32 × Nat) := []
theorem r_J6_bitCount_0f7a4 : ∀ q ∈ k_J6_bitCount_0f7a4, rz_row yJ6_bitCount_0f7a4.cls cJ6_bitCount_0f7a4 1 (some .int) false s_J6_bitCount_0f7a4 q.1 q.2 := rz_rows (by decide +kernel)
theorem m_J6_bitCount_0f7a4 : rz_MW yJ6_bitCount_0f7a4 cJ6_bitCount_0f7a4 1 (some .int) 1 := ⟨bw_t 328 (by decide +kernel) rfl, bw_t 10 (by decide +kernel) rfl, by decide +kernel, by decide +kernel, by decide +kernel⟩
theorem t_J6_bitCount_0f7a4 : Cond.static yJ6_bitCount_0f7a4 ∈ bw := bw_t 327 (by decide +kernel) rfl
def k_J7_fill_53178 : List (Nat × rz_I) := [(0, .iconst 0, 1, 0, 0, 0, 0), (1, .istore_n 2, 2, 2, 0, 0, 0), (2, .aload_n 0, 3, 0, 0, 0, 0), (3, .arraylength, 4, 0, 0, 0, 0), (4, .istore_n 3, 5, 3, 0, 0, 0), (5, .iload_n 2, 6, 2, 0, 0, 0), (6, .iload_n 3, 7, 3, 0, 0, 0), (7, .if_icmp .ge 13, 10, 20, 0, 0, 0), (10, .aload_n 0, 11, 0, 0, 0, 0), (11, .iload_n 2, 12, 2, 0, 0, 0), (12, .iload_n 1, 13, 1, 0, 0, 0), (13, .iastore, 14, 0, 0, 0, 0), (14, .iinc 2 1, 17, 2, 0, 1, 0), (17, .goto (-12), 20, 5, 0, 0, 0), (20, .return_, 21, 0, 0, 0, 0)]
def s_J7_fill_53178 : List (Int32 × Nat) := []
theorem r_J7_fill_53178 : ∀ q ∈ k_J7_fill_53178, rz_row yJ7_fill_53178.cls cJ7_fill_53178 4 none false s_J7_fill_53178 q.1 q.2 := rz_rows (by decide +kernel)
theorem m_J7_fill_53178 : rz_MW yJ7_fill_53178 cJ7_fill_53178 4 none 2 := ⟨bw_t 33 (by decide +kernel) rfl, bw_t 3 (by decide +kernel) rfl, by decide +kernel, by decide +kernel, by decide +kernel⟩
theorem t_J7_fill_53178 : Cond.static yJ7_fill_53178 ∈ bw := bw_t 32 (by decide +kernel) rfl
def k_J9_abs_067f4 : List (Nat × rz_I) := [(0, .lload_n 0, 1, 0, 0, 0, 0), (1, .lconst 0, 2, 0, 0, 0, 0), (2, .lcmp, 3, 0, 0, 0, 0), (3, .ifCond .ge 8, 6, 11, 0, 0, 0), (6, .lload_n 0, 7, 0, 0, 0, 0), (7, .lneg, 8, 0, 0, 0, 0), (8, .goto 4, 11, 12, 0, 0, 0), (11, .lload_n 0, 12, 0, 0, 0, 0), (12, .lreturn, 13, 0, 0, 0, 0)]
def s_J9_abs_067f4 : List (Int32 × Nat) := []
theorem r_J9_abs_067f4 : ∀ q ∈ k_J9_abs_067f4, rz_row yJ9_abs_067f4.cls cJ9_abs_067f4 2 (some .long) false s_J9_abs_067f4 q.1 q.2 := rz_rows (by decide +kernel)
theorem m_J9_abs_067f4 : rz_MW yJ9_abs_067f4 cJ9_abs_067f4 2 (some .long) 1 := ⟨bw_t 416 (by decide +kernel) rfl, bw_t 12 (by decide +kernel) rfl, by decide +kernel, by decide +kernel, by decide +kernel⟩
theorem t_J9_abs_067f4 : Cond.static yJ9_abs_067f4 ∈ bw := bw_t 415 (by decide +kernel) rfl
def k_J9_floorDiv_f86c9 : List (Nat × rz_I) := [(0, .lload_n 0, 1, 0, 0, 0, 0), (1, .lload_n 2, 2, 2, 0, 0, 0), (2, .ldiv, 3, 0, 0, 0, 0), (3, .lstore 4, 5, 4, 0, 0, 0), (5, .lload_n 0, 6, 0, 0, 0, 0), (6, .lload_n 2, 7, 2, 0, 0, 0), (7, .lxor, 8, 0, 0, 0, 0), (8, .lconst 0, 9, 0, 0, 0, 0), (9, .lcmp, 10, 0, 0, 0, 0), (10, .ifCond .ge 17, 13, 27, 0, 0, 0), (13, .lload 4, 15, 4, 0, 0, 0), (15, .lload_n 2, 16, 2, 0, 0, 0), (16, .lmul, 17, 0, 0, 0, 0), (17, .lload_n 0, 18, 0, 0, 0, 0), (18, .lcmp, 19, 0, 0, 0, 0), (19, .ifCond .eq 8, 22, 27, 0, 0, 0), (22, .lload 4, 24, 4, 0, 0, 0), (24, .lconst 1, 25, 0, 0, 0, 1), (25, .lsub, 26, 0, 0, 0, 0), (26, .lreturn, 27, 0, 0, 0, 0), (27, .lload 4, 29, 4, 0, 0, 0), (29, .lreturn, 30, 0, 0, 0, 0)]
def s_J9_floorDiv_f86c9 : List (Int32 × Nat) := []
theorem r_J9_floorDiv_f86c9 : ∀ q ∈ k_J9_floorDiv_f86c9, rz_row yJ9_floorDiv_f86c9.cls cJ9_floorDiv_f86c9 6 (some .long) false s_J9_floorDiv_f86c9 q.1 q.2 := rz_rows (by decide +kernel)
theorem m_J9_floorDiv_f86c9 : rz_MW yJ9_floorDiv_f86c9 cJ9_floorDiv_f86c9 6 (some .long) 2 := ⟨bw_t 462 (by decide +kernel) rfl, bw_t 12 (by decide +kernel) rfl, by decide +kernel, by decide +kernel, by decide +kernel⟩
theorem t_J9_floorDiv_f86c9 : Cond.static yJ9_floorDiv_f86c9 ∈ bw := bw_t 461 (by decide +kernel) rfl
def k_J9_max_f86c9 : List (Nat × rz_I) := [(0, .lload_n 0, 1, 0, 0, 0, 0), (1, .lload_n 2, 2, 2, 0, 0, 0), (2, .lcmp, 3, 0, 0, 0, 0), (3, .ifCond .lt 7, 6, 10, 0, 0, 0), (6, .lload_n 0, 7, 0, 0, 0, 0), (7, .goto 4, 10, 11, 0, 0, 0), (10, .lload_n 2, 11, 2, 0, 0, 0), (11, .lreturn, 12, 0, 0, 0, 0)]
def s_J9_max_f86c9 : List (Int32 × Nat) := []
theorem r_J9_max_f86c9 : ∀ q ∈ k_J9_max_f86c9, rz_row yJ9_max_f86c9.cls cJ9_max_f86c9 4 (some .long) false s_J9_max_f86c9 q.1 q.2 := rz_rows (by decide +kernel)
theorem m_J9_max_f86c9 : rz_MW yJ9_max_f86c9 cJ9_max_f86c9 4 (some .long) 2 := ⟨bw_t 473 (by decide +kernel) rfl, bw_t 12 (by decide +kernel) rfl, by decide +kernel, by decide +kernel, by decide +kernel⟩
theorem t_J9_max_f86c9 : Cond.static yJ9_max_f86c9 ∈ bw := bw_t 472 (by decide +kernel) rfl
def k_J9_min_7cf53 : List (Nat × rz_I) := [(0, .iload_n 0, 1, 0, 0, 0, 0), (1, .iload_n 1, 2, 1, 0, 0, 0), (2, .if_icmp .gt 7, 5, 9, 0, 0, 0), (5, .iload_n 0, 6, 0, 0, 0, 0), (6, .goto 4, 9, 10, 0, 0, 0), (9, .iload_n 1, 10, 1, 0, 0, 0), (10, .ireturn, 11, 0, 0, 0, 0)]
def s_J9_min_7cf53 : List (Int32 × Nat) := []
theorem r_J9_min_7cf53 : ∀ q ∈ k_J9_min_7cf53, rz_row yJ9_min_7cf53.cls cJ9_min_7cf53 2 (some .int) false s_J9_min_7cf53 q.1 q.2 := rz_rows (by decide +kernel)
theorem m_J9_min_7cf53 : rz_MW yJ9_min_7cf53 cJ9_min_7cf53 2 (some .int) 2 := ⟨bw_t 583 (by decide +kernel) rfl, bw_t 12 (by decide +kernel) rfl, by decide +kernel, by decide +kernel, by decide +kernel⟩
theorem t_J9_min_7cf53 : Cond.static yJ9_min_7cf53 ∈ bw := bw_t 582 (by decide +kernel) rfl
def k_J9_min_f86c9 : List (Nat × rz_I) := [(0, .lload_n 0, 1, 0, 0, 0, 0), (1, .lload_n 2, 2, 2, 0, 0, 0), (2, .lcmp, 3, 0, 0, 0, 0), (3, .ifCond .gt 7, 6, 10, 0, 0, 0), (6, .lload_n 0, 7, 0, 0, 0, 0), (7, .goto 4, 10, 11, 0, 0, 0), (10, .lload_n 2, 11, 2, 0, 0, 0), (11, .lreturn, 12, 0, 0, 0, 0)]
def s_J9_min_f86c9 : List (Int32 × Nat) := []
theorem r_J9_min_f86c9 : ∀ q ∈ k_J9_min_f86c9, rz_row yJ9_min_f86c9.cls cJ9_min_f86c9 4 (some .long) false s_J9_min_f86c9 q.1 q.2 := rz_rows (by decide +kernel)
theorem m_J9_min_f86c9 : rz_MW yJ9_min_f86c9 cJ9_min_f86c9 4 (some .long) 2 := ⟨bw_t 465 (by decide +kernel) rfl, bw_t 12 (by decide +kernel) rfl, by decide +kernel, by decide +kernel, by decide +kernel⟩
theorem t_J9_min_f86c9 : Cond.static yJ9_min_f86c9 ∈ bw := bw_t 464 (by decide +kernel) rfl
def k_X0_addPlan : List (Nat × rz_I) := [(0, .iload_n 1, 1, 1, 0, 0, 0), (1, .aload_n 0, 2, 0, 0, 0, 0), (2, .getfield 34, 5, 0, 0, 0, 0), (5, .if_icmp .ne 20, 8, 25, 0, 0, 0), (8, .aload_n 0, 9, 0, 0, 0, 0), (9, .getfield 27, 12, 0, 0, 0, 0), (12, .iload_n 1, 13, 1, 0, 0, 0), (13, .iconst (-1), 14, 0, 0, (-1), 0), (14, .iastore, 15, 0, 0, 0, 0), (15, .aload_n 0, 16, 0, 0, 0, 0), (16, .dup, 17, 0, 0, 0, 0), (17, .getfield 34, 20, 0, 0, 0, 0), (20, .iconst 1, 21, 0, 0, 1, 0), (21, .iadd, 22, 0, 0, 0, 0), (22, .putfield 34, 25, 0, 0, 0, 0), (25, .aload_n 0, 26, 0, 0, 0, 0), (26, .getfield 9, 29, 0, 0, 0, 0), (29, .aload_n 0, 30, 0, 0, 0, 0), (30, .getfield 30, 33, 0, 0, 0, 0), (33, .iload_n 1, 34, 1, 0, 0, 0), (34, .iastore, 35, 0, 0, 0, 0), (35, .aload_n 0, 36, 0, 0, 0, 0), (36, .getfield 15, 39, 0, 0, 0, 0), (39, .aload_n 0, 40, 0, 0, 0, 0), (40, .getfield 30, 43, 0, 0, 0, 0), (43, .iload_n 2, 44, 2, 0, 0, 0), (44, .iastore, 45, 0, 0, 0, 0), (45, .aload_n 0, 46, 0, 0, 0, 0), (46, .getfield 18, 49, 0, 0, 0, 0), (49, .aload_n 0, 50, 0, 0, 0, 0), (50, .getfield 30, 53, 0, 0, 0, 0), (53, .iload_n 3, 54, 3, 0, 0, 0), (54, .iastore, 55, 0, 0, 0, 0), (55, .aload_n 0, 56, 0, 0, 0, 0), (56, .getfield 21, 59, 0, 0, 0, 0), (59, .aload_n 0, 60, 0, 0, 0, 0), (60, .getfield 30, 63, 0, 0, 0, 0), (63, .iload 4, 65, 4, 0, 0, 0), (65, .iastore, 66, 0, 0, 0, 0), (66, .aload_n 0, 67, 0, 0, 0, 0), (67, .getfield 24, 70, 0, 0, 0, 0), (70, .iload_n 1, 71, 1, 0, 0, 0), (71, .aload_n 0, 72, 0, 0, 0, 0), (72, .getfield 30, 75, 0, 0, 0, 0), (75, .iastore, 76, 0, 0, 0, 0), (76, .aload_n 0, 77, 0, 0, 0, 0), (77, .dup, 78, 0, 0, 0, 0), (78, .getfield 30, 81, 0, 0, 0, 0), (81, .iconst 1, 82, 0, 0, 1, 0), (82, .iadd, 83, 0, 0, 0, 0), (83, .putfield 30, 86, 0, 0, 0, 0), (86, .return_, 87, 0, 0, 0, 0)]
def s_X0_addPlan : List (Int32 × Nat) := []
theorem r_X0_addPlan : ∀ q ∈ k_X0_addPlan, rz_row yX0_addPlan.cls cX0_addPlan 5 none false s_X0_addPlan q.1 q.2 := rz_rows (by decide +kernel)
theorem m_X0_addPlan : rz_MW yX0_addPlan cX0_addPlan 5 none 4 := ⟨bw_t 521 (by decide +kernel) rfl, bw_t 7 (by decide +kernel) rfl, by decide +kernel, by decide +kernel, by decide +kernel⟩
theorem i_X0_addPlan : Cond.instanceMethod yX0_addPlan ∈ bw := bw_t 520 (by decide +kernel) rfl
theorem v_X0_addPlan : Cond.selects yX0_addPlan.cls yX0_addPlan yX0_addPlan ∈ bw := bw_p 36 (by decide +kernel) rfl
def k_X0_firstOverdue : List (Nat × rz_I) := [(0, .aload_n 0, 1, 0, 0, 0, 0), (1, .getfield 18, 4, 0, 0, 0, 0), (4, .aload_n 0, 5, 0, 0, 0, 0), (5, .getfield 24, 8, 0, 0, 0, 0), (8, .iload_n 1, 9, 1, 0, 0, 0), (9, .iaload, 10, 0, 0, 0, 0), (10, .iaload, 11, 0, 0, 0, 0), (11, .iconst 1, 12, 0, 0, 1, 0), (12, .iadd, 13, 0, 0, 0, 0), (13, .ireturn, 14, 0, 0, 0, 0)]
def s_X0_firstOverdue : List (Int32 × Nat) := []
theorem r_X0_firstOverdue : ∀ q ∈ k_X0_firstOverdue, rz_row yX0_firstOverdue.cls cX0_firstOverdue 2 (some .int) false s_X0_firstOverdue q.1 q.2 := rz_rows (by decide +kernel)
theorem m_X0_firstOverdue : rz_MW yX0_firstOverdue cX0_firstOverdue 2 (some .int) 1 := ⟨bw_t 564 (by decide +kernel) rfl, bw_t 7 (by decide +kernel) rfl, by decide +kernel, by decide +kernel, by decide +kernel⟩
theorem i_X0_firstOverdue : Cond.instanceMethod yX0_firstOverdue ∈ bw := bw_t 563 (by decide +kernel) rfl
theorem v_X0_firstOverdue : Cond.selects yX0_firstOverdue.cls yX0_firstOverdue yX0_firstOverdue ∈ bw := bw_p 42 (by decide +kernel) rfl
def k_X0_hasBoat : List (Nat × rz_I) := [(0, .iload_n 1, 1, 1, 0, 0, 0), (1, .iconst 0, 2, 0, 0, 0, 0), (2, .aload_n 0, 3, 0, 0, 0, 0), (3, .getfield 34, 6, 0, 0, 0, 0), (6, .iconst 1, 7, 0, 0, 1, 0), (7, .isub, 8, 0, 0, 0, 0), (8, .invokestatic 37, 11, 0, 0, 0, 0), (11, .ireturn, 12, 0, 0, 0, 0)]
def s_X0_hasBoat : List (Int32 × Nat) := []
theorem r_X0_hasBoat : ∀ q ∈ k_X0_hasBoat, rz_row yX0_hasBoat.cls cX0_hasBoat 2 (some .boolean) true s_X0_hasBoat q.1 q.2 := rz_rows (by decide +kernel)
theorem m_X0_hasBoat : rz_MW yX0_hasBoat cX0_hasBoat 2 (some .boolean) 1 := ⟨bw_t 512 (by decide +kernel) rfl, bw_t 7 (by decide +kernel) rfl, by decide +kernel, by decide +kernel, by decide +kernel⟩
theorem i_X0_hasBoat : Cond.instanceMethod yX0_hasBoat ∈ bw := bw_t 511 (by decide +kernel) rfl
theorem v_X0_hasBoat : Cond.selects yX0_hasBoat.cls yX0_hasBoat yX0_hasBoat ∈ bw := bw_p 34 (by decide +kernel) rfl
def k_X0_isIn : List (Nat × rz_I) := [(0, .aload_n 0, 1, 0, 0, 0, 0), (1, .getfield 27, 4, 0, 0, 0, 0), (4, .iload_n 1, 5, 1, 0, 0, 0), (5, .iaload, 6, 0, 0, 0, 0), (6, .iconst (-1), 7, 0, 0, (-1), 0), (7, .if_icmp .eq 7, 10, 14, 0, 0, 0), (10, .iconst 1, 11, 0, 0, 1, 0), (11, .goto 4, 14, 15, 0, 0, 0), (14, .iconst 0, 15, 0, 0, 0, 0), (15, .ireturn, 16, 0, 0, 0, 0)]
def s_X0_isIn : List (Int32 × Nat) := []
theorem r_X0_isIn : ∀ q ∈ k_X0_isIn, rz_row yX0_isIn.cls cX0_isIn 2 (some .boolean) true s_X0_isIn q.1 q.2 := rz_rows (by decide +kernel)
theorem m_X0_isIn : rz_MW yX0_isIn cX0_isIn 2 (some .boolean) 1 := ⟨bw_t 517 (by decide +kernel) rfl, bw_t 7 (by decide +kernel) rfl, by decide +kernel, by decide +kernel, by decide +kernel⟩
theorem i_X0_isIn : Cond.instanceMethod yX0_isIn ∈ bw := bw_t 516 (by decide +kernel) rfl
theorem v_X0_isIn : Cond.selects yX0_isIn.cls yX0_isIn yX0_isIn ∈ bw := bw_p 35 (by decide +kernel) rfl
def k_X0_overdueAt : List (Nat × rz_I) := [(0, .iconst 0, 1, 0, 0, 0, 0), (1, .istore_n 2, 2, 2, 0, 0, 0), (2, .iconst 0, 3, 0, 0, 0, 0), (3, .istore_n 3, 4, 3, 0, 0, 0), (4, .iload_n 3, 5, 3, 0, 0, 0), (5, .aload_n 0, 6, 0, 0, 0, 0), (6, .getfield 34, 9, 0, 0, 0, 0), (9, .if_icmp .ge 29, 12, 38, 0, 0, 0), (12, .aload_n 0, 13, 0, 0, 0, 0), (13, .iload_n 3, 14, 3, 0, 0, 0), (14, .invokevirtual 45, 17, 0, 0, 0, 0), (17, .ifCond .ne 15, 20, 32, 0, 0, 0), (20, .iload_n 1, 21, 1, 0, 0, 0), (21, .aload_n 0, 22, 0, 0, 0, 0), (22, .iload_n 3, 23, 3, 0, 0, 0), (23, .invokevirtual 52, 26, 0, 0, 0, 0), (26, .if_icmp .lt 6, 29, 32, 0, 0, 0), (29, .iinc 2 1, 32, 2, 0, 1, 0), (32, .iinc 3 1, 35, 3, 0, 1, 0), (35, .goto (-31), 38, 4, 0, 0, 0), (38, .iload_n 2, 39, 2, 0, 0, 0), (39, .ireturn, 40, 0, 0, 0, 0)]
def s_X0_overdueAt : List (Int32 × Nat) := []
theorem r_X0_overdueAt : ∀ q ∈ k_X0_overdueAt, rz_row yX0_overdueAt.cls cX0_overdueAt 4 (some .int) false s_X0_overdueAt q.1 q.2 := rz_rows (by decide +kernel)
theorem m_X0_overdueAt : rz_MW yX0_overdueAt cX0_overdueAt 4 (some .int) 1 := ⟨bw_t 592 (by decide +kernel) rfl, bw_t 7 (by decide +kernel) rfl, by decide +kernel, by decide +kernel, by decide +kernel⟩
theorem i_X0_overdueAt : Cond.instanceMethod yX0_overdueAt ∈ bw := bw_t 591 (by decide +kernel) rfl
theorem v_X0_overdueAt : Cond.selects yX0_overdueAt.cls yX0_overdueAt yX0_overdueAt ∈ bw := bw_p 46 (by decide +kernel) rfl
def k_X0_planKnown : List (Nat × rz_I) := [(0, .aload_n 0, 1, 0, 0, 0, 0), (1, .getfield 30, 4, 0, 0, 0, 0), (4, .iconst 1, 5, 0, 0, 1, 0), (5, .isub, 6, 0, 0, 0, 0), (6, .istore_n 3, 7, 3, 0, 0, 0), (7, .iload_n 3, 8, 3, 0, 0, 0), (8, .ifCond .lt 31, 11, 39, 0, 0, 0), (11, .aload_n 0, 12, 0, 0, 0, 0), (12, .getfield 9, 15, 0, 0, 0, 0), (15, .iload_n 3, 16, 3, 0, 0, 0), (16, .iaload, 17, 0, 0, 0, 0), (17, .iload_n 1, 18, 1, 0, 0, 0), (18, .if_icmp .ne 15, 21, 33, 0, 0, 0), (21, .aload_n 0, 22, 0, 0, 0, 0), (22, .getfield 21, 25, 0, 0, 0, 0), (25, .iload_n 3, 26, 3, 0, 0, 0), (26, .iaload, 27, 0, 0, 0, 0), (27, .iload_n 2, 28, 2, 0, 0, 0), (28, .if_icmp .gt 5, 31, 33, 0, 0, 0), (31, .iload_n 3, 32, 3, 0, 0, 0), (32, .ireturn, 33, 0, 0, 0, 0), (33, .iinc 3 (-1), 36, 3, 0, (-1), 0), (36, .goto (-29), 39, 7, 0, 0, 0), (39, .iconst (-1), 40, 0, 0, (-1), 0), (40, .ireturn, 41, 0, 0, 0, 0)]
def s_X0_planKnown : List (Int32 × Nat) := []
theorem r_X0_planKnown : ∀ q ∈ k_X0_planKnown, rz_row yX0_planKnown.cls cX0_planKnown 4 (some .int) false s_X0_planKnown q.1 q.2 := rz_rows (by decide +kernel)
theorem m_X0_planKnown : rz_MW yX0_planKnown cX0_planKnown 4 (some .int) 2 := ⟨bw_t 539 (by decide +kernel) rfl, bw_t 7 (by decide +kernel) rfl, by decide +kernel, by decide +kernel, by decide +kernel⟩
theorem i_X0_planKnown : Cond.instanceMethod yX0_planKnown ∈ bw := bw_t 538 (by decide +kernel) rfl
theorem v_X0_planKnown : Cond.selects yX0_planKnown.cls yX0_planKnown yX0_planKnown ∈ bw := bw_p 38 (by decide +kernel) rfl
def k_X0_stateOf : List (Nat × rz_I) := [(0, .aload_n 0, 1, 0, 0, 0, 0), (1, .iload_n 1, 2, 1, 0, 0, 0), (2, .iload_n 3, 3, 3, 0, 0, 0), (3, .invokevirtual 48, 6, 0, 0, 0, 0), (6, .istore 4, 8, 4, 0, 0, 0), (8, .iload 4, 10, 4, 0, 0, 0), (10, .iconst (-1), 11, 0, 0, (-1), 0), (11, .if_icmp .ne 5, 14, 16, 0, 0, 0), (14, .iconst 0, 15, 0, 0, 0, 0), (15, .ireturn, 16, 0, 0, 0, 0), (16, .aload_n 0, 17, 0, 0, 0, 0), (17, .getfield 27, 20, 0, 0, 0, 0), (20, .iload_n 1, 21, 1, 0, 0, 0), (21, .iaload, 22, 0, 0, 0, 0), (22, .istore 5, 24, 5, 0, 0, 0), (24, .iload 5, 26, 5, 0, 0, 0), (26, .iconst (-1), 27, 0, 0, (-1), 0), (27, .if_icmp .eq 17, 30, 44, 0, 0, 0), (30, .iload 5, 32, 5, 0, 0, 0), (32, .iload_n 2, 33, 2, 0, 0, 0), (33, .if_icmp .gt 11, 36, 44, 0, 0, 0), (36, .iload 5, 38, 5, 0, 0, 0), (38, .iload_n 3, 39, 3, 0, 0, 0), (39, .if_icmp .gt 5, 42, 44, 0, 0, 0), (42, .iconst 4, 43, 0, 0, 4, 0), (43, .ireturn, 44, 0, 0, 0, 0), (44, .iload_n 2, 45, 2, 0, 0, 0), (45, .aload_n 0, 46, 0, 0, 0, 0), (46, .getfield 15, 49, 0, 0, 0, 0), (49, .iload 4, 51, 4, 0, 0, 0), (51, .iaload, 52, 0, 0, 0, 0), (52, .if_icmp .ge 5, 55, 57, 0, 0, 0), (55, .iconst 1, 56, 0, 0, 1, 0), (56, .ireturn, 57, 0, 0, 0, 0), (57, .iload_n 2, 58, 2, 0, 0, 0), (58, .aload_n 0, 59, 0, 0, 0, 0), (59, .getfield 18, 62, 0, 0, 0, 0), (62, .iload 4, 64, 4, 0, 0, 0), (64, .iaload, 65, 0, 0, 0, 0), (65, .if_icmp .gt 7, 68, 72, 0, 0, 0), (68, .iconst 2, 69, 0, 0, 2, 0), (69, .goto 4, 72, 73, 0, 0, 0), (72, .iconst 3, 73, 0, 0, 3, 0), (73, .ireturn, 74, 0, 0, 0, 0)]
def s_X0_stateOf : List (Int32 × Nat) := []
theorem r_X0_stateOf : ∀ q ∈ k_X0_stateOf, rz_row yX0_stateOf.cls cX0_stateOf 6 (some .int) false s_X0_stateOf q.1 q.2 := rz_rows (by decide +kernel)
theorem m_X0_stateOf : rz_MW yX0_stateOf cX0_stateOf 6 (some .int) 3 := ⟨bw_t 535 (by decide +kernel) rfl, bw_t 7 (by decide +kernel) rfl, by decide +kernel, by decide +kernel, by decide +kernel⟩
theorem i_X0_stateOf : Cond.instanceMethod yX0_stateOf ∈ bw := bw_t 534 (by decide +kernel) rfl
theorem v_X0_stateOf : Cond.selects yX0_stateOf.cls yX0_stateOf yX0_stateOf ∈ bw := bw_p 37 (by decide +kernel) rfl
def k_X0_takesPlan : List (Nat × rz_I) := [(0, .aload_n 0, 1, 0, 0, 0, 0), (1, .getfield 30, 4, 0, 0, 0, 0), (4, .bipush 100, 6, 0, 0, 100, 0), (6, .if_icmp .lt 5, 9, 11, 0, 0, 0), (9, .iconst 0, 10, 0, 0, 0, 0), (10, .ireturn, 11, 0, 0, 0, 0), (11, .aload_n 0, 12, 0, 0, 0, 0), (12, .iload_n 1, 13, 1, 0, 0, 0), (13, .invokevirtual 41, 16, 0, 0, 0, 0), (16, .ifCond .eq 17, 19, 33, 0, 0, 0), (19, .aload_n 0, 20, 0, 0, 0, 0), (20, .iload_n 1, 21, 1, 0, 0, 0), (21, .invokevirtual 45, 24, 0, 0, 0, 0), (24, .ifCond .ne 7, 27, 31, 0, 0, 0), (27, .iconst 1, 28, 0, 0, 1, 0), (28, .goto 4, 31, 32, 0, 0, 0), (31, .iconst 0, 32, 0, 0, 0, 0), (32, .ireturn, 33, 0, 0, 0, 0), (33, .iload_n 1, 34, 1, 0, 0, 0), (34, .aload_n 0, 35, 0, 0, 0, 0), (35, .getfield 34, 38, 0, 0, 0, 0), (38, .if_icmp .ne 16, 41, 54, 0, 0, 0), (41, .aload_n 0, 42, 0, 0, 0, 0), (42, .getfield 34, 45, 0, 0, 0, 0), (45, .bipush 30, 47, 0, 0, 30, 0), (47, .if_icmp .ge 7, 50, 54, 0, 0, 0), (50, .iconst 1, 51, 0, 0, 1, 0), (51, .goto 4, 54, 55, 0, 0, 0), (54, .iconst 0, 55, 0, 0, 0, 0), (55, .ireturn, 56, 0, 0, 0, 0)]
def s_X0_takesPlan : List (Int32 × Nat) := []
theorem r_X0_takesPlan : ∀ q ∈ k_X0_takesPlan, rz_row yX0_takesPlan.cls cX0_takesPlan 2 (some .boolean) true s_X0_takesPlan q.1 q.2 := rz_rows (by decide +kernel)
theorem m_X0_takesPlan : rz_MW yX0_takesPlan cX0_takesPlan 2 (some .boolean) 1 := ⟨bw_t 508 (by decide +kernel) rfl, bw_t 7 (by decide +kernel) rfl, by decide +kernel, by decide +kernel, by decide +kernel⟩
theorem i_X0_takesPlan : Cond.instanceMethod yX0_takesPlan ∈ bw := bw_t 507 (by decide +kernel) rfl
theorem v_X0_takesPlan : Cond.selects yX0_takesPlan.cls yX0_takesPlan yX0_takesPlan ∈ bw := bw_p 33 (by decide +kernel) rfl
def k_X1_callMinute : List (Nat × rz_I) := [(0, .aload_n 0, 1, 0, 0, 0, 0), (1, .getfield 9, 4, 0, 0, 0, 0), (4, .iload_n 2, 5, 2, 0, 0, 0), (5, .iaload, 6, 0, 0, 0, 0), (6, .iconst (-1), 7, 0, 0, (-1), 0), (7, .if_icmp .eq 11, 10, 18, 0, 0, 0), (10, .aload_n 3, 11, 3, 0, 0, 0), (11, .iload_n 1, 12, 1, 0, 0, 0), (12, .invokevirtual 51, 15, 0, 0, 0, 0), (15, .ifCond .eq 5, 18, 20, 0, 0, 0), (18, .iconst (-1), 19, 0, 0, (-1), 0), (19, .ireturn, 20, 0, 0, 0, 0), (20, .aload_n 3, 21, 3, 0, 0, 0), (21, .iload_n 1, 22, 1, 0, 0, 0), (22, .invokevirtual 55, 25, 0, 0, 0, 0), (25, .aload_n 0, 26, 0, 0, 0, 0), (26, .getfield 9, 29, 0, 0, 0, 0), (29, .iload_n 2, 30, 2, 0, 0, 0), (30, .iaload, 31, 0, 0, 0, 0), (31, .iadd, 32, 0, 0, 0, 0), (32, .ireturn, 33, 0, 0, 0, 0)]
def s_X1_callMinute : List (Int32 × Nat) := []
theorem r_X1_callMinute : ∀ q ∈ k_X1_callMinute, rz_row yX1_callMinute.cls cX1_callMinute 4 (some .int) false s_X1_callMinute q.1 q.2 := rz_rows (by decide +kernel)
theorem m_X1_callMinute : rz_MW yX1_callMinute cX1_callMinute 4 (some .int) 3 := ⟨bw_t 559 (by decide +kernel) rfl, bw_t 8 (by decide +kernel) rfl, by decide +kernel, by decide +kernel, by decide +kernel⟩
theorem i_X1_callMinute : Cond.instanceMethod yX1_callMinute ∈ bw := bw_t 558 (by decide +kernel) rfl
theorem v_X1_callMinute : Cond.selects yX1_callMinute.cls yX1_callMinute yX1_callMinute ∈ bw := bw_p 41 (by decide +kernel) rfl
def k_X1_nextCall : List (Nat × rz_I) := [(0, .iconst (-1), 1, 0, 0, (-1), 0), (1, .istore_n 3, 2, 3, 0, 0, 0), (2, .iconst 0, 3, 0, 0, 0, 0), (3, .istore 4, 5, 4, 0, 0, 0), (5, .iload 4, 7, 4, 0, 0, 0), (7, .aload_n 2, 8, 2, 0, 0, 0), (8, .getfield 42, 11, 0, 0, 0, 0), (11, .if_icmp .ge 55, 14, 66, 0, 0, 0), (14, .iconst 0, 15, 0, 0, 0, 0), (15, .istore 5, 17, 5, 0, 0, 0), (17, .iload 5, 19, 5, 0, 0, 0), (19, .iconst 5, 20, 0, 0, 5, 0), (20, .if_icmp .ge 40, 23, 60, 0, 0, 0), (23, .aload_n 0, 24, 0, 0, 0, 0), (24, .iload 4, 26, 4, 0, 0, 0), (26, .iload 5, 28, 5, 0, 0, 0), (28, .aload_n 2, 29, 2, 0, 0, 0), (29, .invokevirtual 47, 32, 0, 0, 0, 0), (32, .istore 6, 34, 6, 0, 0, 0), (34, .iload 6, 36, 6, 0, 0, 0), (36, .iload_n 1, 37, 1, 0, 0, 0), (37, .if_icmp .le 17, 40, 54, 0, 0, 0), (40, .iload_n 3, 41, 3, 0, 0, 0), (41, .iconst (-1), 42, 0, 0, (-1), 0), (42, .if_icmp .eq 9, 45, 51, 0, 0, 0), (45, .iload 6, 47, 6, 0, 0, 0), (47, .iload_n 3, 48, 3, 0, 0, 0), (48, .if_icmp .ge 6, 51, 54, 0, 0, 0), (51, .iload 6, 53, 6, 0, 0, 0), (53, .istore_n 3, 54, 3, 0, 0, 0), (54, .iinc 5 1, 57, 5, 0, 1, 0), (57, .goto (-40), 60, 17, 0, 0, 0), (60, .iinc 4 1, 63, 4, 0, 1, 0), (63, .goto (-58), 66, 5, 0, 0, 0), (66, .iload_n 3, 67, 3, 0, 0, 0), (67, .ireturn, 68, 0, 0, 0, 0)]
def s_X1_nextCall : List (Int32 × Nat) := []
theorem r_X1_nextCall : ∀ q ∈ k_X1_nextCall, rz_row yX1_nextCall.cls cX1_nextCall 7 (some .int) false s_X1_nextCall q.1 q.2 := rz_rows (by decide +kernel)
theorem m_X1_nextCall : rz_MW yX1_nextCall cX1_nextCall 7 (some .int) 2 := ⟨bw_t 555 (by decide +kernel) rfl, bw_t 8 (by decide +kernel) rfl, by decide +kernel, by decide +kernel, by decide +kernel⟩
theorem i_X1_nextCall : Cond.instanceMethod yX1_nextCall ∈ bw := bw_t 554 (by decide +kernel) rfl
theorem v_X1_nextCall : Cond.selects yX1_nextCall.cls yX1_nextCall yX1_nextCall ∈ bw := bw_p 40 (by decide +kernel) rfl
def k_X1_partOf : List (Nat × rz_I) := [(0, .iload_n 1, 1, 1, 0, 0, 0), (1, .iconst 0, 2, 0, 0, 0, 0), (2, .aload_n 0, 3, 0, 0, 0, 0), (3, .getfield 24, 6, 0, 0, 0, 0), (6, .sipush 300, 9, 0, 0, 300, 0), (9, .invokestatic 63, 12, 0, 0, 0, 0), (12, .iconst 1, 13, 0, 0, 1, 0), (13, .isub, 14, 0, 0, 0, 0), (14, .invokestatic 69, 17, 0, 0, 0, 0), (17, .ifCond .ne 5, 20, 22, 0, 0, 0), (20, .iconst (-1), 21, 0, 0, (-1), 0), (21, .ireturn, 22, 0, 0, 0, 0), (22, .iload_n 2, 23, 2, 0, 0, 0), (23, .tableswitch 46 0 2 #[25, 32, 39], 48, 69, 0, 0, 0), (48, .aload_n 0, 49, 0, 0, 0, 0), (49, .getfield 15, 52, 0, 0, 0, 0), (52, .iload_n 1, 53, 1, 0, 0, 0), (53, .iaload, 54, 0, 0, 0, 0), (54, .ireturn, 55, 0, 0, 0, 0), (55, .aload_n 0, 56, 0, 0, 0, 0), (56, .getfield 18, 59, 0, 0, 0, 0), (59, .iload_n 1, 60, 1, 0, 0, 0), (60, .iaload, 61, 0, 0, 0, 0), (61, .ireturn, 62, 0, 0, 0, 0), (62, .aload_n 0, 63, 0, 0, 0, 0), (63, .getfield 21, 66, 0, 0, 0, 0), (66, .iload_n 1, 67, 1, 0, 0, 0), (67, .iaload, 68, 0, 0, 0, 0), (68, .ireturn, 69, 0, 0, 0, 0), (69, .iconst (-1), 70, 0, 0, (-1), 0), (70, .ireturn, 71, 0, 0, 0, 0)]
def s_X1_partOf : List (Int32 × Nat) := [(0, 48), (1, 55), (2, 62)]
theorem r_X1_partOf : ∀ q ∈ k_X1_partOf, rz_row yX1_partOf.cls cX1_partOf 3 (some .int) false s_X1_partOf q.1 q.2 := rz_rows (by decide +kernel)
theorem m_X1_partOf : rz_MW yX1_partOf cX1_partOf 3 (some .int) 2 := ⟨bw_t 580 (by decide +kernel) rfl, bw_t 8 (by decide +kernel) rfl, by decide +kernel, by decide +kernel, by decide +kernel⟩
theorem i_X1_partOf : Cond.instanceMethod yX1_partOf ∈ bw := bw_t 579 (by decide +kernel) rfl
theorem v_X1_partOf : Cond.selects yX1_partOf.cls yX1_partOf yX1_partOf ∈ bw := bw_p 45 (by decide +kernel) rfl
def k_X1_writeLine : List (Nat × rz_I) := [(0, .aload_n 0, 1, 0, 0, 0, 0), (1, .getfield 24, 4, 0, 0, 0, 0), (4, .sipush 300, 7, 0, 0, 300, 0), (7, .if_icmp .ge 33, 10, 40, 0, 0, 0), (10, .aload_n 0, 11, 0, 0, 0, 0), (11, .getfield 15, 14, 0, 0, 0, 0), (14, .aload_n 0, 15, 0, 0, 0, 0), (15, .getfield 24, 18, 0, 0, 0, 0), (18, .iload_n 1, 19, 1, 0, 0, 0), (19, .iastore, 20, 0, 0, 0, 0), (20, .aload_n 0, 21, 0, 0, 0, 0), (21, .getfield 18, 24, 0, 0, 0, 0), (24, .aload_n 0, 25, 0, 0, 0, 0), (25, .getfield 24, 28, 0, 0, 0, 0), (28, .iload_n 2, 29, 2, 0, 0, 0), (29, .iastore, 30, 0, 0, 0, 0), (30, .aload_n 0, 31, 0, 0, 0, 0), (31, .getfield 21, 34, 0, 0, 0, 0), (34, .aload_n 0, 35, 0, 0, 0, 0), (35, .getfield 24, 38, 0, 0, 0, 0), (38, .iload_n 3, 39, 3, 0, 0, 0), (39, .iastore, 40, 0, 0, 0, 0), (40, .aload_n 0, 41, 0, 0, 0, 0), (41, .dup, 42, 0, 0, 0, 0), (42, .getfield 24, 45, 0, 0, 0, 0), (45, .iconst 1, 46, 0, 0, 1, 0), (46, .iadd, 47, 0, 0, 0, 0), (47, .putfield 24, 50, 0, 0, 0, 0), (50, .return_, 51, 0, 0, 0, 0)]
def s_X1_writeLine : List (Int32 × Nat) := []
theorem r_X1_writeLine : ∀ q ∈ k_X1_writeLine, rz_row yX1_writeLine.cls cX1_writeLine 4 none false s_X1_writeLine q.1 q.2 := rz_rows (by decide +kernel)
theorem m_X1_writeLine : rz_MW yX1_writeLine cX1_writeLine 4 none 3 := ⟨bw_t 572 (by decide +kernel) rfl, bw_t 8 (by decide +kernel) rfl, by decide +kernel, by decide +kernel, by decide +kernel⟩
theorem i_X1_writeLine : Cond.instanceMethod yX1_writeLine ∈ bw := bw_t 571 (by decide +kernel) rfl
theorem v_X1_writeLine : Cond.selects yX1_writeLine.cls yX1_writeLine yX1_writeLine ∈ bw := bw_p 44 (by decide +kernel) rfl
def k_X1_writeMinute : List (Nat × rz_I) := [(0, .iconst 0, 1, 0, 0, 0, 0), (1, .istore_n 3, 2, 3, 0, 0, 0), (2, .iload_n 3, 3, 3, 0, 0, 0), (3, .aload_n 2, 4, 2, 0, 0, 0), (4, .getfield 42, 7, 0, 0, 0, 0), (7, .if_icmp .ge 44, 10, 51, 0, 0, 0), (10, .iconst 0, 11, 0, 0, 0, 0), (11, .istore 4, 13, 4, 0, 0, 0), (13, .iload 4, 15, 4, 0, 0, 0), (15, .iconst 5, 16, 0, 0, 5, 0), (16, .if_icmp .ge 29, 19, 45, 0, 0, 0), (19, .aload_n 0, 20, 0, 0, 0, 0), (20, .iload_n 3, 21, 3, 0, 0, 0), (21, .iload 4, 23, 4, 0, 0, 0), (23, .aload_n 2, 24, 2, 0, 0, 0), (24, .invokevirtual 47, 27, 0, 0, 0, 0), (27, .iload_n 1, 28, 1, 0, 0, 0), (28, .if_icmp .ne 11, 31, 39, 0, 0, 0), (31, .aload_n 0, 32, 0, 0, 0, 0), (32, .iload_n 3, 33, 3, 0, 0, 0), (33, .iload 4, 35, 4, 0, 0, 0), (35, .iload_n 1, 36, 1, 0, 0, 0), (36, .invokevirtual 59, 39, 0, 0, 0, 0), (39, .iinc 4 1, 42, 4, 0, 1, 0), (42, .goto (-29), 45, 13, 0, 0, 0), (45, .iinc 3 1, 48, 3, 0, 1, 0), (48, .goto (-46), 51, 2, 0, 0, 0), (51, .return_, 52, 0, 0, 0, 0)]
def s_X1_writeMinute : List (Int32 × Nat) := []
theorem r_X1_writeMinute : ∀ q ∈ k_X1_writeMinute, rz_row yX1_writeMinute.cls cX1_writeMinute 5 none false s_X1_writeMinute q.1 q.2 := rz_rows (by decide +kernel)
theorem m_X1_writeMinute : rz_MW yX1_writeMinute cX1_writeMinute 5 none 2 := ⟨bw_t 568 (by decide +kernel) rfl, bw_t 8 (by decide +kernel) rfl, by decide +kernel, by decide +kernel, by decide +kernel⟩
theorem i_X1_writeMinute : Cond.instanceMethod yX1_writeMinute ∈ bw := bw_t 567 (by decide +kernel) rfl
theorem v_X1_writeMinute : Cond.selects yX1_writeMinute.cls yX1_writeMinute yX1_writeMinute ∈ bw := bw_p 43 (by decide +kernel) rfl
def k_X1_writeMinutes : List (Nat × rz_I) := [(0, .aload_n 0, 1, 0, 0, 0, 0), (1, .iload_n 1, 2, 1, 0, 0, 0), (2, .aload_n 3, 3, 3, 0, 0, 0), (3, .invokevirtual 34, 6, 0, 0, 0, 0), (6, .istore 4, 8, 4, 0, 0, 0), (8, .iconst 0, 9, 0, 0, 0, 0), (9, .istore 5, 11, 5, 0, 0, 0), (11, .iload 5, 13, 5, 0, 0, 0), (13, .sipush 150, 16, 0, 0, 150, 0), (16, .if_icmp .ge 37, 19, 53, 0, 0, 0), (19, .iload 4, 21, 4, 0, 0, 0), (21, .iconst (-1), 22, 0, 0, (-1), 0), (22, .if_icmp .eq 31, 25, 53, 0, 0, 0), (25, .iload 4, 27, 4, 0, 0, 0), (27, .iload_n 2, 28, 2, 0, 0, 0), (28, .if_icmp .gt 25, 31, 53, 0, 0, 0), (31, .aload_n 0, 32, 0, 0, 0, 0), (32, .iload 4, 34, 4, 0, 0, 0), (34, .aload_n 3, 35, 3, 0, 0, 0), (35, .invokevirtual 38, 38, 0, 0, 0, 0), (38, .aload_n 0, 39, 0, 0, 0, 0), (39, .iload 4, 41, 4, 0, 0, 0), (41, .aload_n 3, 42, 3, 0, 0, 0), (42, .invokevirtual 34, 45, 0, 0, 0, 0), (45, .istore 4, 47, 4, 0, 0, 0), (47, .iinc 5 1, 50, 5, 0, 1, 0), (50, .goto (-39), 53, 11, 0, 0, 0), (53, .return_, 54, 0, 0, 0, 0)]
def s_X1_writeMinutes : List (Int32 × Nat) := []
theorem r_X1_writeMinutes : ∀ q ∈ k_X1_writeMinutes, rz_row yX1_writeMinutes.cls cX1_writeMinutes 6 none false s_X1_writeMinutes q.1 q.2 := rz_rows (by decide +kernel)
theorem m_X1_writeMinutes : rz_MW yX1_writeMinutes cX1_writeMinutes 6 none 3 := ⟨bw_t 551 (by decide +kernel) rfl, bw_t 8 (by decide +kernel) rfl, by decide +kernel, by decide +kernel, by decide +kernel⟩
theorem i_X1_writeMinutes : Cond.instanceMethod yX1_writeMinutes ∈ bw := bw_t 550 (by decide +kernel) rfl
theorem v_X1_writeMinutes : Cond.selects yX1_writeMinutes.cls yX1_writeMinutes yX1_writeMinutes ∈ bw := bw_p 39 (by decide +kernel) rfl
def k_X2_addPost : List (Nat × rz_I) := [(0, .aload_n 0, 1, 0, 0, 0, 0), (1, .getfield 33, 4, 0, 0, 0, 0), (4, .bipush 6, 6, 0, 0, 6, 0), (6, .if_icmp .lt 5, 9, 11, 0, 0, 0), (9, .iconst (-1), 10, 0, 0, (-1), 0), (10, .ireturn, 11, 0, 0, 0, 0), (11, .aload_n 0, 12, 0, 0, 0, 0), (12, .getfield 9, 15, 0, 0, 0, 0), (15, .aload_n 0, 16, 0, 0, 0, 0), (16, .getfield 33, 19, 0, 0, 0, 0), (19, .iload_n 1, 20, 1, 0, 0, 0), (20, .iastore, 21, 0, 0, 0, 0), (21, .aload_n 0, 22, 0, 0, 0, 0), (22, .getfield 15, 25, 0, 0, 0, 0), (25, .aload_n 0, 26, 0, 0, 0, 0), (26, .getfield 33, 29, 0, 0, 0, 0), (29, .iload_n 2, 30, 2, 0, 0, 0), (30, .iastore, 31, 0, 0, 0, 0), (31, .aload_n 0, 32, 0, 0, 0, 0), (32, .getfield 18, 35, 0, 0, 0, 0), (35, .aload_n 0, 36, 0, 0, 0, 0), (36, .getfield 33, 39, 0, 0, 0, 0), (39, .iload_n 3, 40, 3, 0, 0, 0), (40, .iastore, 41, 0, 0, 0, 0), (41, .aload_n 0, 42, 0, 0, 0, 0), (42, .dup, 43, 0, 0, 0, 0), (43, .getfield 33, 46, 0, 0, 0, 0), (46, .iconst 1, 47, 0, 0, 1, 0), (47, .iadd, 48, 0, 0, 0, 0), (48, .putfield 33, 51, 0, 0, 0, 0), (51, .aload_n 0, 52, 0, 0, 0, 0), (52, .getfield 33, 55, 0, 0, 0, 0), (55, .iconst 1, 56, 0, 0, 1, 0), (56, .isub, 57, 0, 0, 0, 0), (57, .ireturn, 58, 0, 0, 0, 0)]
def s_X2_addPost : List (Int32 × Nat) := []
theorem r_X2_addPost : ∀ q ∈ k_X2_addPost, rz_row yX2_addPost.cls cX2_addPost 4 (some .int) false s_X2_addPost q.1 q.2 := rz_rows (by decide +kernel)
theorem m_X2_addPost : rz_MW yX2_addPost cX2_addPost 4 (some .int) 3 := ⟨bw_t 280 (by decide +kernel) rfl, bw_t 2 (by decide +kernel) rfl, by decide +kernel, by decide +kernel, by decide +kernel⟩
theorem i_X2_addPost : Cond.instanceMethod yX2_addPost ∈ bw := bw_t 279 (by decide +kernel) rfl
theorem v_X2_addPost : Cond.selects yX2_addPost.cls yX2_addPost yX2_addPost ∈ bw := bw_p 0 (by decide +kernel) rfl
def k_X2_addReach : List (Nat × rz_I) := [(0, .aload_n 0, 1, 0, 0, 0, 0), (1, .getfield 37, 4, 0, 0, 0, 0), (4, .bipush 8, 6, 0, 0, 8, 0), (6, .if_icmp .lt 5, 9, 11, 0, 0, 0), (9, .iconst (-1), 10, 0, 0, (-1), 0), (10, .ireturn, 11, 0, 0, 0, 0), (11, .aload_n 0, 12, 0, 0, 0, 0), (12, .getfield 21, 15, 0, 0, 0, 0), (15, .aload_n 0, 16, 0, 0, 0, 0), (16, .getfield 37, 19, 0, 0, 0, 0), (19, .iload_n 1, 20, 1, 0, 0, 0), (20, .iastore, 21, 0, 0, 0, 0), (21, .aload_n 0, 22, 0, 0, 0, 0), (22, .getfield 24, 25, 0, 0, 0, 0), (25, .aload_n 0, 26, 0, 0, 0, 0), (26, .getfield 37, 29, 0, 0, 0, 0), (29, .iload_n 2, 30, 2, 0, 0, 0), (30, .iastore, 31, 0, 0, 0, 0), (31, .aload_n 0, 32, 0, 0, 0, 0), (32, .dup, 33, 0, 0, 0, 0), (33, .getfield 37, 36, 0, 0, 0, 0), (36, .iconst 1, 37, 0, 0, 1, 0), (37, .iadd, 38, 0, 0, 0, 0), (38, .putfield 37, 41, 0, 0, 0, 0), (41, .aload_n 0, 42, 0, 0, 0, 0), (42, .getfield 37, 45, 0, 0, 0, 0), (45, .iconst 1, 46, 0, 0, 1, 0), (46, .isub, 47, 0, 0, 0, 0), (47, .ireturn, 48, 0, 0, 0, 0)]
def s_X2_addReach : List (Int32 × Nat) := []
theorem r_X2_addReach : ∀ q ∈ k_X2_addReach, rz_row yX2_addReach.cls cX2_addReach 3 (some .int) false s_X2_addReach q.1 q.2 := rz_rows (by decide +kernel)
theorem m_X2_addReach : rz_MW yX2_addReach cX2_addReach 3 (some .int) 2 := ⟨bw_t 288 (by decide +kernel) rfl, bw_t 2 (by decide +kernel) rfl, by decide +kernel, by decide +kernel, by decide +kernel⟩
theorem i_X2_addReach : Cond.instanceMethod yX2_addReach ∈ bw := bw_t 287 (by decide +kernel) rfl
theorem v_X2_addReach : Cond.selects yX2_addReach.cls yX2_addReach yX2_addReach ∈ bw := bw_p 1 (by decide +kernel) rfl
def k_X2_fewestPosts : List (Nat × rz_I) := [(0, .aload_n 0, 1, 0, 0, 0, 0), (1, .iload_n 1, 2, 1, 0, 0, 0), (2, .invokevirtual 58, 5, 0, 0, 0, 0), (5, .istore_n 2, 6, 2, 0, 0, 0), (6, .iconst 1, 7, 0, 0, 1, 0), (7, .aload_n 0, 8, 0, 0, 0, 0), (8, .getfield 33, 11, 0, 0, 0, 0), (11, .ishl, 12, 0, 0, 0, 0), (12, .iconst 1, 13, 0, 0, 1, 0), (13, .isub, 14, 0, 0, 0, 0), (14, .istore_n 3, 15, 3, 0, 0, 0), (15, .iconst 0, 16, 0, 0, 0, 0), (16, .istore 4, 18, 4, 0, 0, 0), (18, .iload 4, 20, 4, 0, 0, 0), (20, .iconst 1, 21, 0, 0, 1, 0), (21, .aload_n 0, 22, 0, 0, 0, 0), (22, .getfield 33, 25, 0, 0, 0, 0), (25, .ishl, 26, 0, 0, 0, 0), (26, .if_icmp .ge 34, 29, 60, 0, 0, 0), (29, .iload 4, 31, 4, 0, 0, 0), (31, .invokestatic 62, 34, 0, 0, 0, 0), (34, .iload_n 3, 35, 3, 0, 0, 0), (35, .invokestatic 62, 38, 0, 0, 0, 0), (38, .if_icmp .ge 16, 41, 54, 0, 0, 0), (41, .aload_n 0, 42, 0, 0, 0, 0), (42, .iload 4, 44, 4, 0, 0, 0), (44, .invokevirtual 67, 47, 0, 0, 0, 0), (47, .iload_n 2, 48, 2, 0, 0, 0), (48, .if_icmp .ne 6, 51, 54, 0, 0, 0), (51, .iload 4, 53, 4, 0, 0, 0), (53, .istore_n 3, 54, 3, 0, 0, 0), (54, .iinc 4 1, 57, 4, 0, 1, 0), (57, .goto (-39), 60, 18, 0, 0, 0), (60, .iload_n 3, 61, 3, 0, 0, 0), (61, .ireturn, 62, 0, 0, 0, 0)]
def s_X2_fewestPosts : List (Int32 × Nat) := []
theorem r_X2_fewestPosts : ∀ q ∈ k_X2_fewestPosts, rz_row yX2_fewestPosts.cls cX2_fewestPosts 5 (some .int) false s_X2_fewestPosts q.1 q.2 := rz_rows (by decide +kernel)
theorem m_X2_fewestPosts : rz_MW yX2_fewestPosts cX2_fewestPosts 5 (some .int) 1 := ⟨bw_t 316 (by decide +kernel) rfl, bw_t 2 (by decide +kernel) rfl, by decide +kernel, by decide +kernel, by decide +kernel⟩
theorem i_X2_fewestPosts : Cond.instanceMethod yX2_fewestPosts ∈ bw := bw_t 315 (by decide +kernel) rfl
theorem v_X2_fewestPosts : Cond.selects yX2_fewestPosts.cls yX2_fewestPosts yX2_fewestPosts ∈ bw := bw_p 4 (by decide +kernel) rfl
def k_X2_hasPost : List (Nat × rz_I) := [(0, .iload_n 1, 1, 1, 0, 0, 0), (1, .iconst 0, 2, 0, 0, 0, 0), (2, .aload_n 0, 3, 0, 0, 0, 0), (3, .getfield 33, 6, 0, 0, 0, 0), (6, .iconst 1, 7, 0, 0, 1, 0), (7, .isub, 8, 0, 0, 0, 0), (8, .invokestatic 46, 11, 0, 0, 0, 0), (11, .ireturn, 12, 0, 0, 0, 0)]
def s_X2_hasPost : List (Int32 × Nat) := []
theorem r_X2_hasPost : ∀ q ∈ k_X2_hasPost, rz_row yX2_hasPost.cls cX2_hasPost 2 (some .boolean) true s_X2_hasPost q.1 q.2 := rz_rows (by decide +kernel)
theorem m_X2_hasPost : rz_MW yX2_hasPost cX2_hasPost 2 (some .boolean) 1 := ⟨bw_t 303 (by decide +kernel) rfl, bw_t 2 (by decide +kernel) rfl, by decide +kernel, by decide +kernel, by decide +kernel⟩
theorem i_X2_hasPost : Cond.instanceMethod yX2_hasPost ∈ bw := bw_t 302 (by decide +kernel) rfl
theorem v_X2_hasPost : Cond.selects yX2_hasPost.cls yX2_hasPost yX2_hasPost ∈ bw := bw_p 2 (by decide +kernel) rfl
def k_X2_isSeen : List (Nat × rz_I) := [(0, .aload_n 0, 1, 0, 0, 0, 0), (1, .getfield 9, 4, 0, 0, 0, 0), (4, .iload_n 1, 5, 1, 0, 0, 0), (5, .iaload, 6, 0, 0, 0, 0), (6, .iload_n 2, 7, 2, 0, 0, 0), (7, .isub, 8, 0, 0, 0, 0), (8, .istore 5, 10, 5, 0, 0, 0), (10, .aload_n 0, 11, 0, 0, 0, 0), (11, .getfield 15, 14, 0, 0, 0, 0), (14, .iload_n 1, 15, 1, 0, 0, 0), (15, .iaload, 16, 0, 0, 0, 0), (16, .iload_n 3, 17, 3, 0, 0, 0), (17, .isub, 18, 0, 0, 0, 0), (18, .istore 6, 20, 6, 0, 0, 0), (20, .iload 5, 22, 5, 0, 0, 0), (22, .iload 5, 24, 5, 0, 0, 0), (24, .imul, 25, 0, 0, 0, 0), (25, .iload 6, 27, 6, 0, 0, 0), (27, .iload 6, 29, 6, 0, 0, 0), (29, .imul, 30, 0, 0, 0, 0), (30, .iadd, 31, 0, 0, 0, 0), (31, .istore 7, 33, 7, 0, 0, 0), (33, .aload_n 0, 34, 0, 0, 0, 0), (34, .getfield 27, 37, 0, 0, 0, 0), (37, .iload 4, 39, 4, 0, 0, 0), (39, .iaload, 40, 0, 0, 0, 0), (40, .istore 8, 42, 8, 0, 0, 0), (42, .iload 7, 44, 7, 0, 0, 0), (44, .iload 8, 46, 8, 0, 0, 0), (46, .iload 8, 48, 8, 0, 0, 0), (48, .imul, 49, 0, 0, 0, 0), (49, .if_icmp .gt 22, 52, 71, 0, 0, 0), (52, .iload 7, 54, 7, 0, 0, 0), (54, .sipush 1274, 57, 0, 0, 1274, 0), (57, .aload_n 0, 58, 0, 0, 0, 0), (58, .getfield 18, 61, 0, 0, 0, 0), (61, .iload_n 1, 62, 1, 0, 0, 0), (62, .iaload, 63, 0, 0, 0, 0), (63, .imul, 64, 0, 0, 0, 0), (64, .if_icmp .gt 7, 67, 71, 0, 0, 0), (67, .iconst 1, 68, 0, 0, 1, 0), (68, .goto 4, 71, 72, 0, 0, 0), (71, .iconst 0, 72, 0, 0, 0, 0), (72, .ireturn, 73, 0, 0, 0, 0)]
def s_X2_isSeen : List (Int32 × Nat) := []
theorem r_X2_isSeen : ∀ q ∈ k_X2_isSeen, rz_row yX2_isSeen.cls cX2_isSeen 9 (some .boolean) true s_X2_isSeen q.1 q.2 := rz_rows (by decide +kernel)
theorem m_X2_isSeen : rz_MW yX2_isSeen cX2_isSeen 9 (some .boolean) 4 := ⟨bw_t 308 (by decide +kernel) rfl, bw_t 2 (by decide +kernel) rfl, by decide +kernel, by decide +kernel, by decide +kernel⟩
theorem i_X2_isSeen : Cond.instanceMethod yX2_isSeen ∈ bw := bw_t 307 (by decide +kernel) rfl
theorem v_X2_isSeen : Cond.selects yX2_isSeen.cls yX2_isSeen yX2_isSeen ∈ bw := bw_p 3 (by decide +kernel) rfl
def k_X2_reachesSeen : List (Nat × rz_I) := [(0, .iconst 0, 1, 0, 0, 0, 0), (1, .istore_n 2, 2, 2, 0, 0, 0), (2, .iconst 0, 3, 0, 0, 0, 0), (3, .istore_n 3, 4, 3, 0, 0, 0), (4, .iload_n 3, 5, 3, 0, 0, 0), (5, .aload_n 0, 6, 0, 0, 0, 0), (6, .getfield 33, 9, 0, 0, 0, 0), (9, .if_icmp .ge 30, 12, 39, 0, 0, 0), (12, .aload_n 0, 13, 0, 0, 0, 0), (13, .getfield 30, 16, 0, 0, 0, 0), (16, .iload_n 3, 17, 3, 0, 0, 0), (17, .aload_n 0, 18, 0, 0, 0, 0), (18, .iload_n 3, 19, 3, 0, 0, 0), (19, .iload_n 1, 20, 1, 0, 0, 0), (20, .invokevirtual 54, 23, 0, 0, 0, 0), (23, .iastore, 24, 0, 0, 0, 0), (24, .iload_n 2, 25, 2, 0, 0, 0), (25, .aload_n 0, 26, 0, 0, 0, 0), (26, .getfield 30, 29, 0, 0, 0, 0), (29, .iload_n 3, 30, 3, 0, 0, 0), (30, .iaload, 31, 0, 0, 0, 0), (31, .ior, 32, 0, 0, 0, 0), (32, .istore_n 2, 33, 2, 0, 0, 0), (33, .iinc 3 1, 36, 3, 0, 1, 0), (36, .goto (-32), 39, 4, 0, 0, 0), (39, .iload_n 2, 40, 2, 0, 0, 0), (40, .ireturn, 41, 0, 0, 0, 0)]
def s_X2_reachesSeen : List (Int32 × Nat) := []
theorem r_X2_reachesSeen : ∀ q ∈ k_X2_reachesSeen, rz_row yX2_reachesSeen.cls cX2_reachesSeen 4 (some .int) false s_X2_reachesSeen q.1 q.2 := rz_rows (by decide +kernel)
theorem m_X2_reachesSeen : rz_MW yX2_reachesSeen cX2_reachesSeen 4 (some .int) 1 := ⟨bw_t 320 (by decide +kernel) rfl, bw_t 2 (by decide +kernel) rfl, by decide +kernel, by decide +kernel, by decide +kernel⟩
theorem i_X2_reachesSeen : Cond.instanceMethod yX2_reachesSeen ∈ bw := bw_t 319 (by decide +kernel) rfl
theorem v_X2_reachesSeen : Cond.selects yX2_reachesSeen.cls yX2_reachesSeen yX2_reachesSeen ∈ bw := bw_p 5 (by decide +kernel) rfl
def k_X2_reachesSeenBy : List (Nat × rz_I) := [(0, .iconst 0, 1, 0, 0, 0, 0), (1, .istore_n 3, 2, 3, 0, 0, 0), (2, .iconst 0, 3, 0, 0, 0, 0), (3, .istore 4, 5, 4, 0, 0, 0), (5, .iload 4, 7, 4, 0, 0, 0), (7, .aload_n 0, 8, 0, 0, 0, 0), (8, .getfield 37, 11, 0, 0, 0, 0), (11, .if_icmp .ge 39, 14, 50, 0, 0, 0), (14, .aload_n 0, 15, 0, 0, 0, 0), (15, .iload_n 1, 16, 1, 0, 0, 0), (16, .aload_n 0, 17, 0, 0, 0, 0), (17, .getfield 21, 20, 0, 0, 0, 0), (20, .iload 4, 22, 4, 0, 0, 0), (22, .iaload, 23, 0, 0, 0, 0), (23, .aload_n 0, 24, 0, 0, 0, 0), (24, .getfield 24, 27, 0, 0, 0, 0), (27, .iload 4, 29, 4, 0, 0, 0), (29, .iaload, 30, 0, 0, 0, 0), (30, .iload_n 2, 31, 2, 0, 0, 0), (31, .invokevirtual 50, 34, 0, 0, 0, 0), (34, .ifCond .eq 10, 37, 44, 0, 0, 0), (37, .iload_n 3, 38, 3, 0, 0, 0), (38, .iconst 1, 39, 0, 0, 1, 0), (39, .iload 4, 41, 4, 0, 0, 0), (41, .ishl, 42, 0, 0, 0, 0), (42, .ior, 43, 0, 0, 0, 0), (43, .istore_n 3, 44, 3, 0, 0, 0), (44, .iinc 4 1, 47, 4, 0, 1, 0), (47, .goto (-42), 50, 5, 0, 0, 0), (50, .iload_n 3, 51, 3, 0, 0, 0), (51, .ireturn, 52, 0, 0, 0, 0)]
def s_X2_reachesSeenBy : List (Int32 × Nat) := []
theorem r_X2_reachesSeenBy : ∀ q ∈ k_X2_reachesSeenBy, rz_row yX2_reachesSeenBy.cls cX2_reachesSeenBy 5 (some .int) false s_X2_reachesSeenBy q.1 q.2 := rz_rows (by decide +kernel)
theorem m_X2_reachesSeenBy : rz_MW yX2_reachesSeenBy cX2_reachesSeenBy 5 (some .int) 2 := ⟨bw_t 324 (by decide +kernel) rfl, bw_t 2 (by decide +kernel) rfl, by decide +kernel, by decide +kernel, by decide +kernel⟩
theorem i_X2_reachesSeenBy : Cond.instanceMethod yX2_reachesSeenBy ∈ bw := bw_t 323 (by decide +kernel) rfl
theorem v_X2_reachesSeenBy : Cond.selects yX2_reachesSeenBy.cls yX2_reachesSeenBy yX2_reachesSeenBy ∈ bw := bw_p 6 (by decide +kernel) rfl
def k_X2_reachesUnseen : List (Nat × rz_I) := [(0, .iconst 1, 1, 0, 0, 1, 0), (1, .aload_n 0, 2, 0, 0, 0, 0), (2, .getfield 37, 5, 0, 0, 0, 0), (5, .ishl, 6, 0, 0, 0, 0), (6, .iconst 1, 7, 0, 0, 1, 0), (7, .isub, 8, 0, 0, 0, 0), (8, .aload_n 0, 9, 0, 0, 0, 0), (9, .iload_n 1, 10, 1, 0, 0, 0), (10, .invokevirtual 58, 13, 0, 0, 0, 0), (13, .iconst (-1), 14, 0, 0, (-1), 0), (14, .ixor, 15, 0, 0, 0, 0), (15, .iand, 16, 0, 0, 0, 0), (16, .ireturn, 17, 0, 0, 0, 0)]
def s_X2_reachesUnseen : List (Int32 × Nat) := []
theorem r_X2_reachesUnseen : ∀ q ∈ k_X2_reachesUnseen, rz_row yX2_reachesUnseen.cls cX2_reachesUnseen 2 (some .int) false s_X2_reachesUnseen q.1 q.2 := rz_rows (by decide +kernel)
theorem m_X2_reachesUnseen : rz_MW yX2_reachesUnseen cX2_reachesUnseen 2 (some .int) 1 := ⟨bw_t 343 (by decide +kernel) rfl, bw_t 2 (by decide +kernel) rfl, by decide +kernel, by decide +kernel, by decide +kernel⟩
theorem i_X2_reachesUnseen : Cond.instanceMethod yX2_reachesUnseen ∈ bw := bw_t 342 (by decide +kernel) rfl
theorem v_X2_reachesUnseen : Cond.selects yX2_reachesUnseen.cls yX2_reachesUnseen yX2_reachesUnseen ∈ bw := bw_p 8 (by decide +kernel) rfl
def k_X2_seenBySet : List (Nat × rz_I) := [(0, .iconst 0, 1, 0, 0, 0, 0), (1, .istore_n 2, 2, 2, 0, 0, 0), (2, .iconst 0, 3, 0, 0, 0, 0), (3, .istore_n 3, 4, 3, 0, 0, 0), (4, .iload_n 3, 5, 3, 0, 0, 0), (5, .aload_n 0, 6, 0, 0, 0, 0), (6, .getfield 33, 9, 0, 0, 0, 0), (9, .if_icmp .ge 27, 12, 36, 0, 0, 0), (12, .iload_n 1, 13, 1, 0, 0, 0), (13, .iload_n 3, 14, 3, 0, 0, 0), (14, .ishr, 15, 0, 0, 0, 0), (15, .iconst 1, 16, 0, 0, 1, 0), (16, .iand, 17, 0, 0, 0, 0), (17, .iconst 1, 18, 0, 0, 1, 0), (18, .if_icmp .ne 12, 21, 30, 0, 0, 0), (21, .iload_n 2, 22, 2, 0, 0, 0), (22, .aload_n 0, 23, 0, 0, 0, 0), (23, .getfield 30, 26, 0, 0, 0, 0), (26, .iload_n 3, 27, 3, 0, 0, 0), (27, .iaload, 28, 0, 0, 0, 0), (28, .ior, 29, 0, 0, 0, 0), (29, .istore_n 2, 30, 2, 0, 0, 0), (30, .iinc 3 1, 33, 3, 0, 1, 0), (33, .goto (-29), 36, 4, 0, 0, 0), (36, .iload_n 2, 37, 2, 0, 0, 0), (37, .ireturn, 38, 0, 0, 0, 0)]
def s_X2_seenBySet : List (Int32 × Nat) := []
theorem r_X2_seenBySet : ∀ q ∈ k_X2_seenBySet, rz_row yX2_seenBySet.cls cX2_seenBySet 4 (some .int) false s_X2_seenBySet q.1 q.2 := rz_rows (by decide +kernel)
theorem m_X2_seenBySet : rz_MW yX2_seenBySet cX2_seenBySet 4 (some .int) 1 := ⟨bw_t 335 (by decide +kernel) rfl, bw_t 2 (by decide +kernel) rfl, by decide +kernel, by decide +kernel, by decide +kernel⟩
theorem i_X2_seenBySet : Cond.instanceMethod yX2_seenBySet ∈ bw := bw_t 334 (by decide +kernel) rfl
theorem v_X2_seenBySet : Cond.selects yX2_seenBySet.cls yX2_seenBySet yX2_seenBySet ∈ bw := bw_p 7 (by decide +kernel) rfl
def k_X3_add : List (Nat × rz_I) := [(0, .aload_n 0, 1, 0, 0, 0, 0), (1, .getfield 39, 4, 0, 0, 0, 0), (4, .bipush 60, 6, 0, 0, 60, 0), (6, .if_icmp .lt 5, 9, 11, 0, 0, 0), (9, .iconst (-1), 10, 0, 0, (-1), 0), (10, .ireturn, 11, 0, 0, 0, 0), (11, .aload_n 0, 12, 0, 0, 0, 0), (12, .getfield 39, 15, 0, 0, 0, 0), (15, .istore 5, 17, 5, 0, 0, 0), (17, .aload_n 0, 18, 0, 0, 0, 0), (18, .getfield 9, 21, 0, 0, 0, 0), (21, .iload 5, 23, 5, 0, 0, 0), (23, .iload_n 1, 24, 1, 0, 0, 0), (24, .iastore, 25, 0, 0, 0, 0), (25, .aload_n 0, 26, 0, 0, 0, 0), (26, .getfield 15, 29, 0, 0, 0, 0), (29, .iload 5, 31, 5, 0, 0, 0), (31, .iload_n 2, 32, 2, 0, 0, 0), (32, .iastore, 33, 0, 0, 0, 0), (33, .aload_n 0, 34, 0, 0, 0, 0), (34, .getfield 18, 37, 0, 0, 0, 0), (37, .iload 5, 39, 5, 0, 0, 0), (39, .iload_n 3, 40, 3, 0, 0, 0), (40, .iastore, 41, 0, 0, 0, 0), (41, .aload_n 0, 42, 0, 0, 0, 0), (42, .getfield 24, 45, 0, 0, 0, 0), (45, .iload 5, 47, 5, 0, 0, 0), (47, .aload 4, 49, 4, 0, 0, 0), (49, .iconst 0, 50, 0, 0, 0, 0), (50, .invokevirtual 49, 53, 0, 0, 0, 0), (53, .iastore, 54, 0, 0, 0, 0), (54, .aload_n 0, 55, 0, 0, 0, 0), (55, .getfield 27, 58, 0, 0, 0, 0), (58, .iload 5, 60, 5, 0, 0, 0), (60, .aload 4, 62, 4, 0, 0, 0), (62, .iconst 1, 63, 0, 0, 1, 0), (63, .invokevirtual 49, 66, 0, 0, 0, 0), (66, .iastore, 67, 0, 0, 0, 0), (67, .aload_n 0, 68, 0, 0, 0, 0), (68, .getfield 30, 71, 0, 0, 0, 0), (71, .iload 5, 73, 5, 0, 0, 0), (73, .aload 4, 75, 4, 0, 0, 0), (75, .iconst 2, 76, 0, 0, 2, 0), (76, .invokevirtual 49, 79, 0, 0, 0, 0), (79, .iastore, 80, 0, 0, 0, 0), (80, .aload_n 0, 81, 0, 0, 0, 0), (81, .getfield 33, 84, 0, 0, 0, 0), (84, .iload 5, 86, 5, 0, 0, 0), (86, .aload 4, 88, 4, 0, 0, 0), (88, .iconst 3, 89, 0, 0, 3, 0), (89, .invokevirtual 49, 92, 0, 0, 0, 0), (92, .iastore, 93, 0, 0, 0, 0), (93, .aload_n 0, 94, 0, 0, 0, 0), (94, .iload 5, 96, 5, 0, 0, 0), (96, .invokevirtual 55, 99, 0, 0, 0, 0), (99, .istore 6, 101, 6, 0, 0, 0), (101, .iload 6, 103, 6, 0, 0, 0), (103, .iconst (-1), 104, 0, 0, (-1), 0), (104, .if_icmp .ne 19, 107, 123, 0, 0, 0), (107, .aload_n 0, 108, 0, 0, 0, 0), (108, .getfield 43, 111, 0, 0, 0, 0), (111, .istore 6, 113, 6, 0, 0, 0), (113, .aload_n 0, 114, 0, 0, 0, 0), (114, .dup, 115, 0, 0, 0, 0), (115, .getfield 43, 118, 0, 0, 0, 0), (118, .iconst 1, 119, 0, 0, 1, 0), (119, .iadd, 120, 0, 0, 0, 0), (120, .putfield 43, 123, 0, 0, 0, 0), (123, .aload_n 0, 124, 0, 0, 0, 0), (124, .getfield 21, 127, 0, 0, 0, 0), (127, .iload 5, 129, 5, 0, 0, 0), (129, .iload 6, 131, 6, 0, 0, 0), (131, .iastore, 132, 0, 0, 0, 0), (132, .aload_n 0, 133, 0, 0, 0, 0), (133, .getfield 36, 136, 0, 0, 0, 0), (136, .iload 6, 138, 6, 0, 0, 0), (138, .iload 5, 140, 5, 0, 0, 0), (140, .iastore, 141, 0, 0, 0, 0), (141, .aload_n 0, 142, 0, 0, 0, 0), (142, .dup, 143, 0, 0, 0, 0), (143, .getfield 39, 146, 0, 0, 0, 0), (146, .iconst 1, 147, 0, 0, 1, 0), (147, .iadd, 148, 0, 0, 0, 0), (148, .putfield 39, 151, 0, 0, 0, 0), (151, .iload 6, 153, 6, 0, 0, 0), (153, .ireturn, 154, 0, 0, 0, 0)]
def s_X3_add : List (Int32 × Nat) := []
theorem r_X3_add : ∀ q ∈ k_X3_add, rz_row yX3_add.cls cX3_add 7 (some .int) false s_X3_add q.1 q.2 := rz_rows (by decide +kernel)
theorem m_X3_add : rz_MW yX3_add cX3_add 7 (some .int) 4 := ⟨bw_t 447 (by decide +kernel) rfl, bw_t 6 (by decide +kernel) rfl, by decide +kernel, by decide +kernel, by decide +kernel⟩
theorem i_X3_add : Cond.instanceMethod yX3_add ∈ bw := bw_t 446 (by decide +kernel) rfl
theorem v_X3_add : Cond.selects yX3_add.cls yX3_add yX3_add ∈ bw := bw_p 26 (by decide +kernel) rfl
def k_X3_gap : List (Nat × rz_I) := [(0, .iload_n 2, 1, 2, 0, 0, 0), (1, .iload_n 1, 2, 1, 0, 0, 0), (2, .if_icmp .le 9, 5, 11, 0, 0, 0), (5, .iload_n 2, 6, 2, 0, 0, 0), (6, .i2l, 7, 0, 0, 0, 0), (7, .iload_n 1, 8, 1, 0, 0, 0), (8, .i2l, 9, 0, 0, 0, 0), (9, .lsub, 10, 0, 0, 0, 0), (10, .lreturn, 11, 0, 0, 0, 0), (11, .iload_n 0, 12, 0, 0, 0, 0), (12, .iload_n 3, 13, 3, 0, 0, 0), (13, .if_icmp .le 11, 16, 24, 0, 0, 0), (16, .iload_n 0, 17, 0, 0, 0, 0), (17, .i2l, 18, 0, 0, 0, 0), (18, .iload_n 3, 19, 3, 0, 0, 0), (19, .i2l, 20, 0, 0, 0, 0), (20, .lsub, 21, 0, 0, 0, 0), (21, .goto 4, 24, 25, 0, 0, 0), (24, .lconst 0, 25, 0, 0, 0, 0), (25, .lreturn, 26, 0, 0, 0, 0)]
def s_X3_gap : List (Int32 × Nat) := []
theorem r_X3_gap : ∀ q ∈ k_X3_gap, rz_row yX3_gap.cls cX3_gap 4 (some .long) false s_X3_gap q.1 q.2 := rz_rows (by decide +kernel)
theorem m_X3_gap : rz_MW yX3_gap cX3_gap 4 (some .long) 4 := ⟨bw_t 484 (by decide +kernel) rfl, bw_t 6 (by decide +kernel) rfl, by decide +kernel, by decide +kernel, by decide +kernel⟩
theorem t_X3_gap : Cond.static yX3_gap ∈ bw := bw_t 483 (by decide +kernel) rfl
def k_X3_nearestTrack : List (Nat × rz_I) := [(0, .iconst (-1), 1, 0, 0, (-1), 0), (1, .istore_n 2, 2, 2, 0, 0, 0), (2, .lconst 0, 3, 0, 0, 0, 0), (3, .lstore_n 3, 4, 3, 0, 0, 0), (4, .iconst 0, 5, 0, 0, 0, 0), (5, .istore 5, 7, 5, 0, 0, 0), (7, .iload 5, 9, 5, 0, 0, 0), (9, .aload_n 0, 10, 0, 0, 0, 0), (10, .getfield 43, 13, 0, 0, 0, 0), (13, .if_icmp .ge 98, 16, 111, 0, 0, 0), (16, .aload_n 0, 17, 0, 0, 0, 0), (17, .getfield 36, 20, 0, 0, 0, 0), (20, .iload 5, 22, 5, 0, 0, 0), (22, .iaload, 23, 0, 0, 0, 0), (23, .istore 6, 25, 6, 0, 0, 0), (25, .aload_n 0, 26, 0, 0, 0, 0), (26, .getfield 18, 29, 0, 0, 0, 0), (29, .iload 6, 31, 6, 0, 0, 0), (31, .iaload, 32, 0, 0, 0, 0), (32, .aload_n 0, 33, 0, 0, 0, 0), (33, .getfield 18, 36, 0, 0, 0, 0), (36, .iload_n 1, 37, 1, 0, 0, 0), (37, .iaload, 38, 0, 0, 0, 0), (38, .if_icmp .lt 6, 41, 44, 0, 0, 0), (41, .goto 64, 44, 105, 0, 0, 0), (44, .aload_n 0, 45, 0, 0, 0, 0), (45, .iload 6, 47, 6, 0, 0, 0), (47, .iload_n 1, 48, 1, 0, 0, 0), (48, .invokevirtual 58, 51, 0, 0, 0, 0), (51, .lstore 7, 53, 7, 0, 0, 0), (53, .aload_n 0, 54, 0, 0, 0, 0), (54, .getfield 46, 57, 0, 0, 0, 0), (57, .i2l, 58, 0, 0, 0, 0), (58, .aload_n 0, 59, 0, 0, 0, 0), (59, .getfield 18, 62, 0, 0, 0, 0), (62, .iload_n 1, 63, 1, 0, 0, 0), (63, .iaload, 64, 0, 0, 0, 0), (64, .aload_n 0, 65, 0, 0, 0, 0), (65, .getfield 18, 68, 0, 0, 0, 0), (68, .iload 6, 70, 6, 0, 0, 0), (70, .iaload, 71, 0, 0, 0, 0), (71, .isub, 72, 0, 0, 0, 0), (72, .i2l, 73, 0, 0, 0, 0), (73, .lmul, 74, 0, 0, 0, 0), (74, .lstore 9, 76, 9, 0, 0, 0), (76, .lload 7, 78, 7, 0, 0, 0), (78, .lload 9, 80, 9, 0, 0, 0), (80, .lload 9, 82, 9, 0, 0, 0), (82, .lmul, 83, 0, 0, 0, 0), (83, .lcmp, 84, 0, 0, 0, 0), (84, .ifCond .gt 21, 87, 105, 0, 0, 0), (87, .iload_n 2, 88, 2, 0, 0, 0), (88, .iconst (-1), 89, 0, 0, (-1), 0), (89, .if_icmp .eq 10, 92, 99, 0, 0, 0), (92, .lload 7, 94, 7, 0, 0, 0), (94, .lload_n 3, 95, 3, 0, 0, 0), (95, .lcmp, 96, 0, 0, 0, 0), (96, .ifCond .ge 9, 99, 105, 0, 0, 0), (99, .iload 5, 101, 5, 0, 0, 0), (101, .istore_n 2, 102, 2, 0, 0, 0), (102, .lload 7, 104, 7, 0, 0, 0), (104, .lstore_n 3, 105, 3, 0, 0, 0), (105, .iinc 5 1, 108, 5, 0, 1, 0), (108, .goto (-101), 111, 7, 0, 0, 0), (111, .iload_n 2, 112, 2, 0, 0, 0), (112, .ireturn, 113, 0, 0, 0, 0)]
def s_X3_nearestTrack : List (Int32 × Nat) := []
theorem r_X3_nearestTrack : ∀ q ∈ k_X3_nearestTrack, rz_row yX3_nearestTrack.cls cX3_nearestTrack 11 (some .int) false s_X3_nearestTrack q.1 q.2 := rz_rows (by decide +kernel)
theorem m_X3_nearestTrack : rz_MW yX3_nearestTrack cX3_nearestTrack 11 (some .int) 1 := ⟨bw_t 477 (by decide +kernel) rfl, bw_t 6 (by decide +kernel) rfl, by decide +kernel, by decide +kernel, by decide +kernel⟩
theorem i_X3_nearestTrack : Cond.instanceMethod yX3_nearestTrack ∈ bw := bw_t 476 (by decide +kernel) rfl
theorem v_X3_nearestTrack : Cond.selects yX3_nearestTrack.cls yX3_nearestTrack yX3_nearestTrack ∈ bw := bw_p 30 (by decide +kernel) rfl
def k_X3_partOf : List (Nat × rz_I) := [(0, .iload_n 1, 1, 1, 0, 0, 0), (1, .iconst 0, 2, 0, 0, 0, 0), (2, .aload_n 0, 3, 0, 0, 0, 0), (3, .getfield 39, 6, 0, 0, 0, 0), (6, .iconst 1, 7, 0, 0, 1, 0), (7, .isub, 8, 0, 0, 0, 0), (8, .invokestatic 66, 11, 0, 0, 0, 0), (11, .ifCond .ne 5, 14, 16, 0, 0, 0), (14, .iconst (-1), 15, 0, 0, (-1), 0), (15, .ireturn, 16, 0, 0, 0, 0), (16, .iload_n 2, 17, 2, 0, 0, 0), (17, .tableswitch 59 0 3 #[31, 38, 45, 52], 48, 76, 0, 0, 0), (48, .aload_n 0, 49, 0, 0, 0, 0), (49, .getfield 21, 52, 0, 0, 0, 0), (52, .iload_n 1, 53, 1, 0, 0, 0), (53, .iaload, 54, 0, 0, 0, 0), (54, .ireturn, 55, 0, 0, 0, 0), (55, .aload_n 0, 56, 0, 0, 0, 0), (56, .getfield 9, 59, 0, 0, 0, 0), (59, .iload_n 1, 60, 1, 0, 0, 0), (60, .iaload, 61, 0, 0, 0, 0), (61, .ireturn, 62, 0, 0, 0, 0), (62, .aload_n 0, 63, 0, 0, 0, 0), (63, .getfield 15, 66, 0, 0, 0, 0), (66, .iload_n 1, 67, 1, 0, 0, 0), (67, .iaload, 68, 0, 0, 0, 0), (68, .ireturn, 69, 0, 0, 0, 0), (69, .aload_n 0, 70, 0, 0, 0, 0), (70, .getfield 18, 73, 0, 0, 0, 0), (73, .iload_n 1, 74, 1, 0, 0, 0), (74, .iaload, 75, 0, 0, 0, 0), (75, .ireturn, 76, 0, 0, 0, 0), (76, .iconst (-1), 77, 0, 0, (-1), 0), (77, .ireturn, 78, 0, 0, 0, 0)]
def s_X3_partOf : List (Int32 × Nat) := [(0, 48), (1, 55), (2, 62), (3, 69)]
theorem r_X3_partOf : ∀ q ∈ k_X3_partOf, rz_row yX3_partOf.cls cX3_partOf 3 (some .int) false s_X3_partOf q.1 q.2 := rz_rows (by decide +kernel)
theorem m_X3_partOf : rz_MW yX3_partOf cX3_partOf 3 (some .int) 2 := ⟨bw_t 496 (by decide +kernel) rfl, bw_t 6 (by decide +kernel) rfl, by decide +kernel, by decide +kernel, by decide +kernel⟩
theorem i_X3_partOf : Cond.instanceMethod yX3_partOf ∈ bw := bw_t 495 (by decide +kernel) rfl
theorem v_X3_partOf : Cond.selects yX3_partOf.cls yX3_partOf yX3_partOf ∈ bw := bw_p 32 (by decide +kernel) rfl
def k_X3_squaredDistance : List (Nat × rz_I) := [(0, .aload_n 0, 1, 0, 0, 0, 0), (1, .getfield 24, 4, 0, 0, 0, 0), (4, .iload_n 1, 5, 1, 0, 0, 0), (5, .iaload, 6, 0, 0, 0, 0), (6, .aload_n 0, 7, 0, 0, 0, 0), (7, .getfield 30, 10, 0, 0, 0, 0), (10, .iload_n 1, 11, 1, 0, 0, 0), (11, .iaload, 12, 0, 0, 0, 0), (12, .aload_n 0, 13, 0, 0, 0, 0), (13, .getfield 24, 16, 0, 0, 0, 0), (16, .iload_n 2, 17, 2, 0, 0, 0), (17, .iaload, 18, 0, 0, 0, 0), (18, .aload_n 0, 19, 0, 0, 0, 0), (19, .getfield 30, 22, 0, 0, 0, 0), (22, .iload_n 2, 23, 2, 0, 0, 0), (23, .iaload, 24, 0, 0, 0, 0), (24, .invokestatic 62, 27, 0, 0, 0, 0), (27, .lstore_n 3, 28, 3, 0, 0, 0), (28, .aload_n 0, 29, 0, 0, 0, 0), (29, .getfield 27, 32, 0, 0, 0, 0), (32, .iload_n 1, 33, 1, 0, 0, 0), (33, .iaload, 34, 0, 0, 0, 0), (34, .aload_n 0, 35, 0, 0, 0, 0), (35, .getfield 33, 38, 0, 0, 0, 0), (38, .iload_n 1, 39, 1, 0, 0, 0), (39, .iaload, 40, 0, 0, 0, 0), (40, .aload_n 0, 41, 0, 0, 0, 0), (41, .getfield 27, 44, 0, 0, 0, 0), (44, .iload_n 2, 45, 2, 0, 0, 0), (45, .iaload, 46, 0, 0, 0, 0), (46, .aload_n 0, 47, 0, 0, 0, 0), (47, .getfield 33, 50, 0, 0, 0, 0), (50, .iload_n 2, 51, 2, 0, 0, 0), (51, .iaload, 52, 0, 0, 0, 0), (52, .invokestatic 62, 55, 0, 0, 0, 0), (55, .lstore 5, 57, 5, 0, 0, 0), (57, .lload_n 3, 58, 3, 0, 0, 0), (58, .lload_n 3, 59, 3, 0, 0, 0), (59, .lmul, 60, 0, 0, 0, 0), (60, .lload 5, 62, 5, 0, 0, 0), (62, .lload 5, 64, 5, 0, 0, 0), (64, .lmul, 65, 0, 0, 0, 0), (65, .ladd, 66, 0, 0, 0, 0), (66, .lreturn, 67, 0, 0, 0, 0)]
def s_X3_squaredDistance : List (Int32 × Nat) := []
theorem r_X3_squaredDistance : ∀ q ∈ k_X3_squaredDistance, rz_row yX3_squaredDistance.cls cX3_squaredDistance 7 (some .long) false s_X3_squaredDistance q.1 q.2 := rz_rows (by decide +kernel)
theorem m_X3_squaredDistance : rz_MW yX3_squaredDistance cX3_squaredDistance 7 (some .long) 2 := ⟨bw_t 481 (by decide +kernel) rfl, bw_t 6 (by decide +kernel) rfl, by decide +kernel, by decide +kernel, by decide +kernel⟩
theorem i_X3_squaredDistance : Cond.instanceMethod yX3_squaredDistance ∈ bw := bw_t 480 (by decide +kernel) rfl
theorem v_X3_squaredDistance : Cond.selects yX3_squaredDistance.cls yX3_squaredDistance yX3_squaredDistance ∈ bw := bw_p 31 (by decide +kernel) rfl
def k_X3_takes : List (Nat × rz_I) := [(0, .iconst 0, 1, 0, 0, 0, 0), (1, .istore_n 3, 2, 3, 0, 0, 0), (2, .iload_n 3, 3, 3, 0, 0, 0), (3, .aload_n 0, 4, 0, 0, 0, 0), (4, .getfield 39, 7, 0, 0, 0, 0), (7, .if_icmp .ge 75, 10, 82, 0, 0, 0), (10, .aload_n 0, 11, 0, 0, 0, 0), (11, .getfield 9, 14, 0, 0, 0, 0), (14, .iload_n 3, 15, 3, 0, 0, 0), (15, .iaload, 16, 0, 0, 0, 0), (16, .iload_n 1, 17, 1, 0, 0, 0), (17, .if_icmp .ne 17, 20, 34, 0, 0, 0), (20, .aload_n 0, 21, 0, 0, 0, 0), (21, .getfield 15, 24, 0, 0, 0, 0), (24, .iload_n 3, 25, 3, 0, 0, 0), (25, .iaload, 26, 0, 0, 0, 0), (26, .iload_n 2, 27, 2, 0, 0, 0), (27, .if_icmp .ne 7, 30, 34, 0, 0, 0), (30, .iconst 1, 31, 0, 0, 1, 0), (31, .goto 4, 34, 35, 0, 0, 0), (34, .iconst 0, 35, 0, 0, 0, 0), (35, .istore 4, 37, 4, 0, 0, 0), (37, .aload_n 0, 38, 0, 0, 0, 0), (38, .getfield 9, 41, 0, 0, 0, 0), (41, .iload_n 3, 42, 3, 0, 0, 0), (42, .iaload, 43, 0, 0, 0, 0), (43, .iload_n 2, 44, 2, 0, 0, 0), (44, .if_icmp .ne 17, 47, 61, 0, 0, 0), (47, .aload_n 0, 48, 0, 0, 0, 0), (48, .getfield 15, 51, 0, 0, 0, 0), (51, .iload_n 3, 52, 3, 0, 0, 0), (52, .iaload, 53, 0, 0, 0, 0), (53, .iload_n 1, 54, 1, 0, 0, 0), (54, .if_icmp .ne 7, 57, 61, 0, 0, 0), (57, .iconst 1, 58, 0, 0, 1, 0), (58, .goto 4, 61, 62, 0, 0, 0), (61, .iconst 0, 62, 0, 0, 0, 0), (62, .istore 5, 64, 5, 0, 0, 0), (64, .iload 4, 66, 4, 0, 0, 0), (66, .ifCond .ne 8, 69, 74, 0, 0, 0), (69, .iload 5, 71, 5, 0, 0, 0), (71, .ifCond .eq 5, 74, 76, 0, 0, 0), (74, .iconst 0, 75, 0, 0, 0, 0), (75, .ireturn, 76, 0, 0, 0, 0), (76, .iinc 3 1, 79, 3, 0, 1, 0), (79, .goto (-77), 82, 2, 0, 0, 0), (82, .aload_n 0, 83, 0, 0, 0, 0), (83, .getfield 39, 86, 0, 0, 0, 0), (86, .bipush 60, 88, 0, 0, 60, 0), (88, .if_icmp .ge 7, 91, 95, 0, 0, 0), (91, .iconst 1, 92, 0, 0, 1, 0), (92, .goto 4, 95, 96, 0, 0, 0), (95, .iconst 0, 96, 0, 0, 0, 0), (96, .ireturn, 97, 0, 0, 0, 0)]
def s_X3_takes : List (Int32 × Nat) := []
theorem r_X3_takes : ∀ q ∈ k_X3_takes, rz_row yX3_takes.cls cX3_takes 6 (some .boolean) true s_X3_takes q.1 q.2 := rz_rows (by decide +kernel)
theorem m_X3_takes : rz_MW yX3_takes cX3_takes 6 (some .boolean) 2 := ⟨bw_t 443 (by decide +kernel) rfl, bw_t 6 (by decide +kernel) rfl, by decide +kernel, by decide +kernel, by decide +kernel⟩
theorem i_X3_takes : Cond.instanceMethod yX3_takes ∈ bw := bw_t 442 (by decide +kernel) rfl
theorem v_X3_takes : Cond.selects yX3_takes.cls yX3_takes yX3_takes ∈ bw := bw_p 25 (by decide +kernel) rfl
def k_X4_boxSide : List (Nat × rz_I) := [(0, .iload_n 1, 1, 1, 0, 0, 0), (1, .tableswitch 66 0 2 #[27, 40, 53], 28, 67, 0, 0, 0), (28, .aload_n 0, 29, 0, 0, 0, 0), (29, .aload_n 0, 30, 0, 0, 0, 0), (30, .getfield 27, 33, 0, 0, 0, 0), (33, .aload_n 0, 34, 0, 0, 0, 0), (34, .getfield 30, 37, 0, 0, 0, 0), (37, .invokevirtual 86, 40, 0, 0, 0, 0), (40, .ireturn, 41, 0, 0, 0, 0), (41, .aload_n 0, 42, 0, 0, 0, 0), (42, .aload_n 0, 43, 0, 0, 0, 0), (43, .getfield 33, 46, 0, 0, 0, 0), (46, .aload_n 0, 47, 0, 0, 0, 0), (47, .getfield 36, 50, 0, 0, 0, 0), (50, .invokevirtual 86, 53, 0, 0, 0, 0), (53, .ireturn, 54, 0, 0, 0, 0), (54, .aload_n 0, 55, 0, 0, 0, 0), (55, .aload_n 0, 56, 0, 0, 0, 0), (56, .getfield 27, 59, 0, 0, 0, 0), (59, .aload_n 0, 60, 0, 0, 0, 0), (60, .getfield 30, 63, 0, 0, 0, 0), (63, .invokevirtual 90, 66, 0, 0, 0, 0), (66, .ireturn, 67, 0, 0, 0, 0), (67, .aload_n 0, 68, 0, 0, 0, 0), (68, .aload_n 0, 69, 0, 0, 0, 0), (69, .getfield 33, 72, 0, 0, 0, 0), (72, .aload_n 0, 73, 0, 0, 0, 0), (73, .getfield 36, 76, 0, 0, 0, 0), (76, .invokevirtual 90, 79, 0, 0, 0, 0), (79, .ireturn, 80, 0, 0, 0, 0)]
def s_X4_boxSide : List (Int32 × Nat) := [(0, 28), (1, 41), (2, 54)]
theorem r_X4_boxSide : ∀ q ∈ k_X4_boxSide, rz_row yX4_boxSide.cls cX4_boxSide 2 (some .int) false s_X4_boxSide q.1 q.2 := rz_rows (by decide +kernel)
theorem m_X4_boxSide : rz_MW yX4_boxSide cX4_boxSide 2 (some .int) 1 := ⟨bw_t 451 (by decide +kernel) rfl, bw_t 5 (by decide +kernel) rfl, by decide +kernel, by decide +kernel, by decide +kernel⟩
theorem i_X4_boxSide : Cond.instanceMethod yX4_boxSide ∈ bw := bw_t 450 (by decide +kernel) rfl
theorem v_X4_boxSide : Cond.selects yX4_boxSide.cls yX4_boxSide yX4_boxSide ∈ bw := bw_p 27 (by decide +kernel) rfl
def k_X4_commonDivisor : List (Nat × rz_I) := [(0, .lload_n 0, 1, 0, 0, 0, 0), (1, .invokestatic 72, 4, 0, 0, 0, 0), (4, .lstore 4, 6, 4, 0, 0, 0), (6, .lload_n 2, 7, 2, 0, 0, 0), (7, .invokestatic 72, 10, 0, 0, 0, 0), (10, .lstore 6, 12, 6, 0, 0, 0), (12, .iconst 0, 13, 0, 0, 0, 0), (13, .istore 8, 15, 8, 0, 0, 0), (15, .iload 8, 17, 8, 0, 0, 0), (17, .sipush 128, 20, 0, 0, 128, 0), (20, .if_icmp .ge 31, 23, 51, 0, 0, 0), (23, .lload 6, 25, 6, 0, 0, 0), (25, .lconst 0, 26, 0, 0, 0, 0), (26, .lcmp, 27, 0, 0, 0, 0), (27, .ifCond .eq 24, 30, 51, 0, 0, 0), (30, .lload 4, 32, 4, 0, 0, 0), (32, .lload 6, 34, 6, 0, 0, 0), (34, .lrem, 35, 0, 0, 0, 0), (35, .lstore 9, 37, 9, 0, 0, 0), (37, .lload 6, 39, 6, 0, 0, 0), (39, .lstore 4, 41, 4, 0, 0, 0), (41, .lload 9, 43, 9, 0, 0, 0), (43, .lstore 6, 45, 6, 0, 0, 0), (45, .iinc 8 1, 48, 8, 0, 1, 0), (48, .goto (-33), 51, 15, 0, 0, 0), (51, .lload 4, 53, 4, 0, 0, 0), (53, .lreturn, 54, 0, 0, 0, 0)]
def s_X4_commonDivisor : List (Int32 × Nat) := []
theorem r_X4_commonDivisor : ∀ q ∈ k_X4_commonDivisor, rz_row yX4_commonDivisor.cls cX4_commonDivisor 11 (some .long) false s_X4_commonDivisor q.1 q.2 := rz_rows (by decide +kernel)
theorem m_X4_commonDivisor : rz_MW yX4_commonDivisor cX4_commonDivisor 11 (some .long) 2 := ⟨bw_t 413 (by decide +kernel) rfl, bw_t 5 (by decide +kernel) rfl, by decide +kernel, by decide +kernel, by decide +kernel⟩
theorem t_X4_commonDivisor : Cond.static yX4_commonDivisor ∈ bw := bw_t 412 (by decide +kernel) rfl
def k_X4_cornerPart : List (Nat × rz_I) := [(0, .iload_n 2, 1, 2, 0, 0, 0), (1, .tableswitch 48 0 2 #[27, 34, 41], 28, 49, 0, 0, 0), (28, .aload_n 0, 29, 0, 0, 0, 0), (29, .getfield 27, 32, 0, 0, 0, 0), (32, .iload_n 1, 33, 1, 0, 0, 0), (33, .laload, 34, 0, 0, 0, 0), (34, .lreturn, 35, 0, 0, 0, 0), (35, .aload_n 0, 36, 0, 0, 0, 0), (36, .getfield 30, 39, 0, 0, 0, 0), (39, .iload_n 1, 40, 1, 0, 0, 0), (40, .laload, 41, 0, 0, 0, 0), (41, .lreturn, 42, 0, 0, 0, 0), (42, .aload_n 0, 43, 0, 0, 0, 0), (43, .getfield 33, 46, 0, 0, 0, 0), (46, .iload_n 1, 47, 1, 0, 0, 0), (47, .laload, 48, 0, 0, 0, 0), (48, .lreturn, 49, 0, 0, 0, 0), (49, .aload_n 0, 50, 0, 0, 0, 0), (50, .getfield 36, 53, 0, 0, 0, 0), (53, .iload_n 1, 54, 1, 0, 0, 0), (54, .laload, 55, 0, 0, 0, 0), (55, .lreturn, 56, 0, 0, 0, 0)]
def s_X4_cornerPart : List (Int32 × Nat) := [(0, 28), (1, 35), (2, 42)]
theorem r_X4_cornerPart : ∀ q ∈ k_X4_cornerPart, rz_row yX4_cornerPart.cls cX4_cornerPart 3 (some .long) false s_X4_cornerPart q.1 q.2 := rz_rows (by decide +kernel)
theorem m_X4_cornerPart : rz_MW yX4_cornerPart cX4_cornerPart 3 (some .long) 2 := ⟨bw_t 666 (by decide +kernel) rfl, bw_t 5 (by decide +kernel) rfl, by decide +kernel, by decide +kernel, by decide +kernel⟩
theorem i_X4_cornerPart : Cond.instanceMethod yX4_cornerPart ∈ bw := bw_t 665 (by decide +kernel) rfl
theorem v_X4_cornerPart : Cond.selects yX4_cornerPart.cls yX4_cornerPart yX4_cornerPart ∈ bw := bw_p 48 (by decide +kernel) rfl
def k_X4_findCorners : List (Nat × rz_I) := [(0, .aload_n 0, 1, 0, 0, 0, 0), (1, .iconst 0, 2, 0, 0, 0, 0), (2, .putfield 39, 5, 0, 0, 0, 0), (5, .iconst 0, 6, 0, 0, 0, 0), (6, .istore_n 1, 7, 1, 0, 0, 0), (7, .iload_n 1, 8, 1, 0, 0, 0), (8, .iconst 4, 9, 0, 0, 4, 0), (9, .if_icmp .ge 30, 12, 39, 0, 0, 0), (12, .iload_n 1, 13, 1, 0, 0, 0), (13, .iconst 1, 14, 0, 0, 1, 0), (14, .iadd, 15, 0, 0, 0, 0), (15, .istore_n 2, 16, 2, 0, 0, 0), (16, .iload_n 2, 17, 2, 0, 0, 0), (17, .iconst 4, 18, 0, 0, 4, 0), (18, .if_icmp .ge 15, 21, 33, 0, 0, 0), (21, .aload_n 0, 22, 0, 0, 0, 0), (22, .iload_n 1, 23, 1, 0, 0, 0), (23, .iload_n 2, 24, 2, 0, 0, 0), (24, .invokevirtual 43, 27, 0, 0, 0, 0), (27, .iinc 2 1, 30, 2, 0, 1, 0), (30, .goto (-14), 33, 16, 0, 0, 0), (33, .iinc 1 1, 36, 1, 0, 1, 0), (36, .goto (-29), 39, 7, 0, 0, 0), (39, .return_, 40, 0, 0, 0, 0)]
def s_X4_findCorners : List (Int32 × Nat) := []
theorem r_X4_findCorners : ∀ q ∈ k_X4_findCorners, rz_row yX4_findCorners.cls cX4_findCorners 3 none false s_X4_findCorners q.1 q.2 := rz_rows (by decide +kernel)
theorem m_X4_findCorners : rz_MW yX4_findCorners cX4_findCorners 3 none 0 := ⟨bw_t 391 (by decide +kernel) rfl, bw_t 5 (by decide +kernel) rfl, by decide +kernel, by decide +kernel, by decide +kernel⟩
theorem i_X4_findCorners : Cond.instanceMethod yX4_findCorners ∈ bw := bw_t 390 (by decide +kernel) rfl
theorem v_X4_findCorners : Cond.selects yX4_findCorners.cls yX4_findCorners yX4_findCorners ∈ bw := bw_p 17 (by decide +kernel) rfl
def k_X4_floor : List (Nat × rz_I) := [(0, .lload_n 2, 1, 2, 0, 0, 0), (1, .lconst 1, 2, 0, 0, 0, 1), (2, .lcmp, 3, 0, 0, 0, 0), (3, .ifCond .le 11, 6, 14, 0, 0, 0), (6, .lload_n 0, 7, 0, 0, 0, 0), (7, .lload_n 2, 8, 2, 0, 0, 0), (8, .invokestatic 106, 11, 0, 0, 0, 0), (11, .goto 4, 14, 15, 0, 0, 0), (14, .lload_n 0, 15, 0, 0, 0, 0), (15, .lreturn, 16, 0, 0, 0, 0)]
def s_X4_floor : List (Int32 × Nat) := []
theorem r_X4_floor : ∀ q ∈ k_X4_floor, rz_row yX4_floor.cls cX4_floor 4 (some .long) false s_X4_floor q.1 q.2 := rz_rows (by decide +kernel)
theorem m_X4_floor : rz_MW yX4_floor cX4_floor 4 (some .long) 2 := ⟨bw_t 459 (by decide +kernel) rfl, bw_t 5 (by decide +kernel) rfl, by decide +kernel, by decide +kernel, by decide +kernel⟩
theorem t_X4_floor : Cond.static yX4_floor ∈ bw := bw_t 458 (by decide +kernel) rfl
def k_X4_greatest : List (Nat × rz_I) := [(0, .ldc2_w 101, 3, 0, 470, 0, (-9223372036854775808)), (3, .lstore_n 3, 4, 3, 0, 0, 0), (4, .iconst 0, 5, 0, 0, 0, 0), (5, .istore 5, 7, 5, 0, 0, 0), (7, .iload 5, 9, 5, 0, 0, 0), (9, .aload_n 0, 10, 0, 0, 0, 0), (10, .getfield 39, 13, 0, 0, 0, 0), (13, .if_icmp .ge 27, 16, 40, 0, 0, 0), (16, .lload_n 3, 17, 3, 0, 0, 0), (17, .aload_n 1, 18, 1, 0, 0, 0), (18, .iload 5, 20, 5, 0, 0, 0), (20, .laload, 21, 0, 0, 0, 0), (21, .lneg, 22, 0, 0, 0, 0), (22, .aload_n 2, 23, 2, 0, 0, 0), (23, .iload 5, 25, 5, 0, 0, 0), (25, .laload, 26, 0, 0, 0, 0), (26, .invokestatic 95, 29, 0, 0, 0, 0), (29, .lneg, 30, 0, 0, 0, 0), (30, .invokestatic 103, 33, 0, 0, 0, 0), (33, .lstore_n 3, 34, 3, 0, 0, 0), (34, .iinc 5 1, 37, 5, 0, 1, 0), (37, .goto (-30), 40, 7, 0, 0, 0), (40, .lload_n 3, 41, 3, 0, 0, 0), (41, .l2i, 42, 0, 0, 0, 0), (42, .ireturn, 43, 0, 0, 0, 0)]
def s_X4_greatest : List (Int32 × Nat) := []
theorem r_X4_greatest : ∀ q ∈ k_X4_greatest, rz_row yX4_greatest.cls cX4_greatest 6 (some .int) false s_X4_greatest q.1 q.2 := rz_rows (by decide +kernel)
theorem m_X4_greatest : rz_MW yX4_greatest cX4_greatest 6 (some .int) 2 := ⟨bw_t 469 (by decide +kernel) rfl, bw_t 5 (by decide +kernel) rfl, by decide +kernel, by decide +kernel, by decide +kernel⟩
theorem i_X4_greatest : Cond.instanceMethod yX4_greatest ∈ bw := bw_t 468 (by decide +kernel) rfl
theorem v_X4_greatest : Cond.selects yX4_greatest.cls yX4_greatest yX4_greatest ∈ bw := bw_p 29 (by decide +kernel) rfl
def k_X4_insert : List (Nat × rz_I) := [(0, .iconst 0, 1, 0, 0, 0, 0), (1, .istore 7, 3, 7, 0, 0, 0), (3, .iload 7, 5, 7, 0, 0, 0), (5, .aload_n 0, 6, 0, 0, 0, 0), (6, .getfield 39, 9, 0, 0, 0, 0), (9, .if_icmp .ge 22, 12, 31, 0, 0, 0), (12, .aload_n 0, 13, 0, 0, 0, 0), (13, .iload 7, 15, 7, 0, 0, 0), (15, .lload_n 1, 16, 1, 0, 0, 0), (16, .lload_n 3, 17, 3, 0, 0, 0), (17, .lload 5, 19, 5, 0, 0, 0), (19, .invokevirtual 55, 22, 0, 0, 0, 0), (22, .ifCond .ge 9, 25, 31, 0, 0, 0), (25, .iinc 7 1, 28, 7, 0, 1, 0), (28, .goto (-25), 31, 3, 0, 0, 0), (31, .iload 7, 33, 7, 0, 0, 0), (33, .aload_n 0, 34, 0, 0, 0, 0), (34, .getfield 39, 37, 0, 0, 0, 0), (37, .if_icmp .ge 20, 40, 57, 0, 0, 0), (40, .aload_n 0, 41, 0, 0, 0, 0), (41, .iload 7, 43, 7, 0, 0, 0), (43, .lload_n 1, 44, 1, 0, 0, 0), (44, .lload_n 3, 45, 3, 0, 0, 0), (45, .lload 5, 47, 5, 0, 0, 0), (47, .invokevirtual 55, 50, 0, 0, 0, 0), (50, .ifCond .ne 7, 53, 57, 0, 0, 0), (53, .iconst 1, 54, 0, 0, 1, 0), (54, .goto 4, 57, 58, 0, 0, 0), (57, .iconst 0, 58, 0, 0, 0, 0), (58, .istore 8, 60, 8, 0, 0, 0), (60, .iload 8, 62, 8, 0, 0, 0), (62, .ifCond .ne 12, 65, 74, 0, 0, 0), (65, .aload_n 0, 66, 0, 0, 0, 0), (66, .getfield 39, 69, 0, 0, 0, 0), (69, .bipush 6, 71, 0, 0, 6, 0), (71, .if_icmp .lt 4, 74, 75, 0, 0, 0), (74, .return_, 75, 0, 0, 0, 0), (75, .aload_n 0, 76, 0, 0, 0, 0), (76, .getfield 39, 79, 0, 0, 0, 0), (79, .istore 9, 81, 9, 0, 0, 0), (81, .iload 9, 83, 9, 0, 0, 0), (83, .iload 7, 85, 7, 0, 0, 0), (85, .if_icmp .le 73, 88, 158, 0, 0, 0), (88, .aload_n 0, 89, 0, 0, 0, 0), (89, .getfield 27, 92, 0, 0, 0, 0), (92, .iload 9, 94, 9, 0, 0, 0), (94, .aload_n 0, 95, 0, 0, 0, 0), (95, .getfield 27, 98, 0, 0, 0, 0), (98, .iload 9, 100, 9, 0, 0, 0), (100, .iconst 1, 101, 0, 0, 1, 0), (101, .isub, 102, 0, 0, 0, 0), (102, .laload, 103, 0, 0, 0, 0), (103, .lastore, 104, 0, 0, 0, 0), (104, .aload_n 0, 105, 0, 0, 0, 0), (105, .getfield 30, 108, 0, 0, 0, 0), (108, .iload 9, 110, 9, 0, 0, 0), (110, .aload_n 0, 111, 0, 0, 0, 0), (111, .getfield 30, 114, 0, 0, 0, 0), (114, .iload 9, 116, 9, 0, 0, 0), (116, .iconst 1, 117, 0, 0, 1, 0), (117, .isub, 118, 0, 0, 0, 0), (118, .laload, 119, 0, 0, 0, 0), (119, .lastore, 120, 0, 0, 0, 0), (120, .aload_n 0, 121, 0, 0, 0, 0), (121, .getfield 33, 124, 0, 0, 0, 0), (124, .iload 9, 126, 9, 0, 0, 0), (126, .aload_n 0, 127, 0, 0, 0, 0), (127, .getfield 33, 130, 0, 0, 0, 0), (130, .iload 9, 132, 9, 0, 0, 0), (132, .iconst 1, 133, 0, 0, 1, 0), (133, .isub, 134, 0, 0, 0, 0), (134, .laload, 135, 0, 0, 0, 0), (135, .lastore, 136, 0, 0, 0, 0), (136, .aload_n 0, 137, 0, 0, 0, 0), (137, .getfield 36, 140, 0, 0, 0, 0), (140, .iload 9, 142, 9, 0, 0, 0), (142, .aload_n 0, 143, 0, 0, 0, 0), (143, .getfield 36, 146, 0, 0, 0, 0), (146, .iload 9, 148, 9, 0, 0, 0), (148, .iconst 1, 149, 0, 0, 1, 0), (149, .isub, 150, 0, 0, 0, 0), (150, .laload, 151, 0, 0, 0, 0), (151, .lastore, 152, 0, 0, 0, 0), (152, .iinc 9 (-1), 155, 9, 0, (-1), 0), (155, .goto (-74), 158, 81, 0, 0, 0), (158, .lload_n 1, 159, 1, 0, 0, 0), (159, .lload 5, 161, 5, 0, 0, 0), (161, .invokestatic 59, 164, 0, 0, 0, 0), (164, .lstore 9, 166, 9, 0, 0, 0), (166, .lload_n 3, 167, 3, 0, 0, 0), (167, .lload 5, 169, 5, 0, 0, 0), (169, .invokestatic 59, 172, 0, 0, 0, 0), (172, .lstore 11, 174, 11, 0, 0, 0), (174, .aload_n 0, 175, 0, 0, 0, 0), (175, .getfield 27, 178, 0, 0, 0, 0), (178, .iload 7, 180, 7, 0, 0, 0), (180, .lload_n 1, 181, 1, 0, 0, 0), (181, .lload 9, 183, 9, 0, 0, 0), (183, .invokestatic 63, 186, 0, 0, 0, 0), (186, .lastore, 187, 0, 0, 0, 0), (187, .aload_n 0, 188, 0, 0, 0, 0), (188, .getfield 30, 191, 0, 0, 0, 0), (191, .iload 7, 193, 7, 0, 0, 0), (193, .lload 5, 195, 5, 0, 0, 0), (195, .lload 9, 197, 9, 0, 0, 0), (197, .invokestatic 63, 200, 0, 0, 0, 0), (200, .lastore, 201, 0, 0, 0, 0), (201, .aload_n 0, 202, 0, 0, 0, 0), (202, .getfield 33, 205, 0, 0, 0, 0), (205, .iload 7, 207, 7, 0, 0, 0), (207, .lload_n 3, 208, 3, 0, 0, 0), (208, .lload 11, 210, 11, 0, 0, 0), (210, .invokestatic 63, 213, 0, 0, 0, 0), (213, .lastore, 214, 0, 0, 0, 0), (214, .aload_n 0, 215, 0, 0, 0, 0), (215, .getfield 36, 218, 0, 0, 0, 0), (218, .iload 7, 220, 7, 0, 0, 0), (220, .lload 5, 222, 5, 0, 0, 0), (222, .lload 11, 224, 11, 0, 0, 0), (224, .invokestatic 63, 227, 0, 0, 0, 0), (227, .lastore, 228, 0, 0, 0, 0), (228, .aload_n 0, 229, 0, 0, 0, 0), (229, .dup, 230, 0, 0, 0, 0), (230, .getfield 39, 233, 0, 0, 0, 0), (233, .iconst 1, 234, 0, 0, 1, 0), (234, .iadd, 235, 0, 0, 0, 0), (235, .putfield 39, 238, 0, 0, 0, 0), (238, .return_, 239, 0, 0, 0, 0)]
def s_X4_insert : List (Int32 × Nat) := []
theorem r_X4_insert : ∀ q ∈ k_X4_insert, rz_row yX4_insert.cls cX4_insert 13 none false s_X4_insert q.1 q.2 := rz_rows (by decide +kernel)
theorem m_X4_insert : rz_MW yX4_insert cX4_insert 13 none 3 := ⟨bw_t 403 (by decide +kernel) rfl, bw_t 5 (by decide +kernel) rfl, by decide +kernel, by decide +kernel, by decide +kernel⟩
theorem i_X4_insert : Cond.instanceMethod yX4_insert ∈ bw := bw_t 402 (by decide +kernel) rfl
theorem v_X4_insert : Cond.selects yX4_insert.cls yX4_insert yX4_insert ∈ bw := bw_p 20 (by decide +kernel) rfl
def k_X4_isEndless : List (Nat × rz_I) := [(0, .iconst 0, 1, 0, 0, 0, 0), (1, .istore_n 1, 2, 1, 0, 0, 0), (2, .iload_n 1, 3, 1, 0, 0, 0), (3, .iconst 4, 4, 0, 0, 4, 0), (4, .if_icmp .ge 30, 7, 34, 0, 0, 0), (7, .aload_n 0, 8, 0, 0, 0, 0), (8, .aload_n 0, 9, 0, 0, 0, 0), (9, .getfield 21, 12, 0, 0, 0, 0), (12, .iload_n 1, 13, 1, 0, 0, 0), (13, .laload, 14, 0, 0, 0, 0), (14, .aload_n 0, 15, 0, 0, 0, 0), (15, .getfield 24, 18, 0, 0, 0, 0), (18, .iload_n 1, 19, 1, 0, 0, 0), (19, .laload, 20, 0, 0, 0, 0), (20, .invokevirtual 82, 23, 0, 0, 0, 0), (23, .ifCond .eq 5, 26, 28, 0, 0, 0), (26, .iconst 1, 27, 0, 0, 1, 0), (27, .ireturn, 28, 0, 0, 0, 0), (28, .iinc 1 1, 31, 1, 0, 1, 0), (31, .goto (-29), 34, 2, 0, 0, 0), (34, .iconst 0, 35, 0, 0, 0, 0), (35, .ireturn, 36, 0, 0, 0, 0)]
def s_X4_isEndless : List (Int32 × Nat) := []
theorem r_X4_isEndless : ∀ q ∈ k_X4_isEndless, rz_row yX4_isEndless.cls cX4_isEndless 2 (some .boolean) true s_X4_isEndless q.1 q.2 := rz_rows (by decide +kernel)
theorem m_X4_isEndless : rz_MW yX4_isEndless cX4_isEndless 2 (some .boolean) 0 := ⟨bw_t 427 (by decide +kernel) rfl, bw_t 5 (by decide +kernel) rfl, by decide +kernel, by decide +kernel, by decide +kernel⟩
theorem i_X4_isEndless : Cond.instanceMethod yX4_isEndless ∈ bw := bw_t 426 (by decide +kernel) rfl
theorem v_X4_isEndless : Cond.selects yX4_isEndless.cls yX4_isEndless yX4_isEndless ∈ bw := bw_p 23 (by decide +kernel) rfl
def k_X4_isInside : List (Nat × rz_I) := [(0, .iconst 0, 1, 0, 0, 0, 0), (1, .istore 7, 3, 7, 0, 0, 0), (3, .iload 7, 5, 7, 0, 0, 0), (5, .iconst 4, 6, 0, 0, 4, 0), (6, .if_icmp .ge 44, 9, 50, 0, 0, 0), (9, .aload_n 0, 10, 0, 0, 0, 0), (10, .getfield 11, 13, 0, 0, 0, 0), (13, .iload 7, 15, 7, 0, 0, 0), (15, .laload, 16, 0, 0, 0, 0), (16, .lload_n 1, 17, 1, 0, 0, 0), (17, .lmul, 18, 0, 0, 0, 0), (18, .aload_n 0, 19, 0, 0, 0, 0), (19, .getfield 15, 22, 0, 0, 0, 0), (22, .iload 7, 24, 7, 0, 0, 0), (24, .laload, 25, 0, 0, 0, 0), (25, .lload_n 3, 26, 3, 0, 0, 0), (26, .lmul, 27, 0, 0, 0, 0), (27, .ladd, 28, 0, 0, 0, 0), (28, .aload_n 0, 29, 0, 0, 0, 0), (29, .getfield 18, 32, 0, 0, 0, 0), (32, .iload 7, 34, 7, 0, 0, 0), (34, .laload, 35, 0, 0, 0, 0), (35, .lload 5, 37, 5, 0, 0, 0), (37, .lmul, 38, 0, 0, 0, 0), (38, .lcmp, 39, 0, 0, 0, 0), (39, .ifCond .ge 5, 42, 44, 0, 0, 0), (42, .iconst 0, 43, 0, 0, 0, 0), (43, .ireturn, 44, 0, 0, 0, 0), (44, .iinc 7 1, 47, 7, 0, 1, 0), (47, .goto (-44), 50, 3, 0, 0, 0), (50, .iconst 1, 51, 0, 0, 1, 0), (51, .ireturn, 52, 0, 0, 0, 0)]
def s_X4_isInside : List (Int32 × Nat) := []
theorem r_X4_isInside : ∀ q ∈ k_X4_isInside, rz_row yX4_isInside.cls cX4_isInside 8 (some .boolean) true s_X4_isInside q.1 q.2 := rz_rows (by decide +kernel)
theorem m_X4_isInside : rz_MW yX4_isInside cX4_isInside 8 (some .boolean) 3 := ⟨bw_t 399 (by decide +kernel) rfl, bw_t 5 (by decide +kernel) rfl, by decide +kernel, by decide +kernel, by decide +kernel⟩
theorem i_X4_isInside : Cond.instanceMethod yX4_isInside ∈ bw := bw_t 398 (by decide +kernel) rfl
theorem v_X4_isInside : Cond.selects yX4_isInside.cls yX4_isInside yX4_isInside ∈ bw := bw_p 19 (by decide +kernel) rfl
def k_X4_kind : List (Nat × rz_I) := [(0, .aload_n 0, 1, 0, 0, 0, 0), (1, .getfield 39, 4, 0, 0, 0, 0), (4, .ifCond .ne 5, 7, 9, 0, 0, 0), (7, .iconst 0, 8, 0, 0, 0, 0), (8, .ireturn, 9, 0, 0, 0, 0), (9, .aload_n 0, 10, 0, 0, 0, 0), (10, .invokevirtual 78, 13, 0, 0, 0, 0), (13, .ifCond .eq 7, 16, 20, 0, 0, 0), (16, .iconst 2, 17, 0, 0, 2, 0), (17, .goto 4, 20, 21, 0, 0, 0), (20, .iconst 1, 21, 0, 0, 1, 0), (21, .ireturn, 22, 0, 0, 0, 0)]
def s_X4_kind : List (Int32 × Nat) := []
theorem r_X4_kind : ∀ q ∈ k_X4_kind, rz_row yX4_kind.cls cX4_kind 1 (some .int) false s_X4_kind q.1 q.2 := rz_rows (by decide +kernel)
theorem m_X4_kind : rz_MW yX4_kind cX4_kind 1 (some .int) 0 := ⟨bw_t 423 (by decide +kernel) rfl, bw_t 5 (by decide +kernel) rfl, by decide +kernel, by decide +kernel, by decide +kernel⟩
theorem i_X4_kind : Cond.instanceMethod yX4_kind ∈ bw := bw_t 422 (by decide +kernel) rfl
theorem v_X4_kind : Cond.selects yX4_kind.cls yX4_kind yX4_kind ∈ bw := bw_p 22 (by decide +kernel) rfl
def k_X4_least : List (Nat × rz_I) := [(0, .ldc2_w 93, 3, 0, 456, 0, 9223372036854775807), (3, .lstore_n 3, 4, 3, 0, 0, 0), (4, .iconst 0, 5, 0, 0, 0, 0), (5, .istore 5, 7, 5, 0, 0, 0), (7, .iload 5, 9, 5, 0, 0, 0), (9, .aload_n 0, 10, 0, 0, 0, 0), (10, .getfield 39, 13, 0, 0, 0, 0), (13, .if_icmp .ge 25, 16, 38, 0, 0, 0), (16, .lload_n 3, 17, 3, 0, 0, 0), (17, .aload_n 1, 18, 1, 0, 0, 0), (18, .iload 5, 20, 5, 0, 0, 0), (20, .laload, 21, 0, 0, 0, 0), (21, .aload_n 2, 22, 2, 0, 0, 0), (22, .iload 5, 24, 5, 0, 0, 0), (24, .laload, 25, 0, 0, 0, 0), (25, .invokestatic 95, 28, 0, 0, 0, 0), (28, .invokestatic 98, 31, 0, 0, 0, 0), (31, .lstore_n 3, 32, 3, 0, 0, 0), (32, .iinc 5 1, 35, 5, 0, 1, 0), (35, .goto (-28), 38, 7, 0, 0, 0), (38, .lload_n 3, 39, 3, 0, 0, 0), (39, .l2i, 40, 0, 0, 0, 0), (40, .ireturn, 41, 0, 0, 0, 0)]
def s_X4_least : List (Int32 × Nat) := []
theorem r_X4_least : ∀ q ∈ k_X4_least, rz_row yX4_least.cls cX4_least 6 (some .int) false s_X4_least q.1 q.2 := rz_rows (by decide +kernel)
theorem m_X4_least : rz_MW yX4_least cX4_least 6 (some .int) 2 := ⟨bw_t 455 (by decide +kernel) rfl, bw_t 5 (by decide +kernel) rfl, by decide +kernel, by decide +kernel, by decide +kernel⟩
theorem i_X4_least : Cond.instanceMethod yX4_least ∈ bw := bw_t 454 (by decide +kernel) rfl
theorem v_X4_least : Cond.selects yX4_least.cls yX4_least yX4_least ∈ bw := bw_p 28 (by decide +kernel) rfl
def k_X4_order : List (Nat × rz_I) := [(0, .aload_n 0, 1, 0, 0, 0, 0), (1, .getfield 27, 4, 0, 0, 0, 0), (4, .iload_n 1, 5, 1, 0, 0, 0), (5, .laload, 6, 0, 0, 0, 0), (6, .lload 6, 8, 6, 0, 0, 0), (8, .lmul, 9, 0, 0, 0, 0), (9, .lload_n 2, 10, 2, 0, 0, 0), (10, .aload_n 0, 11, 0, 0, 0, 0), (11, .getfield 30, 14, 0, 0, 0, 0), (14, .iload_n 1, 15, 1, 0, 0, 0), (15, .laload, 16, 0, 0, 0, 0), (16, .lmul, 17, 0, 0, 0, 0), (17, .invokestatic 66, 20, 0, 0, 0, 0), (20, .istore 8, 22, 8, 0, 0, 0), (22, .iload 8, 24, 8, 0, 0, 0), (24, .ifCond .eq 8, 27, 32, 0, 0, 0), (27, .iload 8, 29, 8, 0, 0, 0), (29, .goto 24, 32, 53, 0, 0, 0), (32, .aload_n 0, 33, 0, 0, 0, 0), (33, .getfield 33, 36, 0, 0, 0, 0), (36, .iload_n 1, 37, 1, 0, 0, 0), (37, .laload, 38, 0, 0, 0, 0), (38, .lload 6, 40, 6, 0, 0, 0), (40, .lmul, 41, 0, 0, 0, 0), (41, .lload 4, 43, 4, 0, 0, 0), (43, .aload_n 0, 44, 0, 0, 0, 0), (44, .getfield 36, 47, 0, 0, 0, 0), (47, .iload_n 1, 48, 1, 0, 0, 0), (48, .laload, 49, 0, 0, 0, 0), (49, .lmul, 50, 0, 0, 0, 0), (50, .invokestatic 66, 53, 0, 0, 0, 0), (53, .ireturn, 54, 0, 0, 0, 0)]
def s_X4_order : List (Int32 × Nat) := []
theorem r_X4_order : ∀ q ∈ k_X4_order, rz_row yX4_order.cls cX4_order 9 (some .int) false s_X4_order q.1 q.2 := rz_rows (by decide +kernel)
theorem m_X4_order : rz_MW yX4_order cX4_order 9 (some .int) 4 := ⟨bw_t 407 (by decide +kernel) rfl, bw_t 5 (by decide +kernel) rfl, by decide +kernel, by decide +kernel, by decide +kernel⟩
theorem i_X4_order : Cond.instanceMethod yX4_order ∈ bw := bw_t 406 (by decide +kernel) rfl
theorem v_X4_order : Cond.selects yX4_order.cls yX4_order yX4_order ∈ bw := bw_p 21 (by decide +kernel) rfl
def k_X4_over : List (Nat × rz_I) := [(0, .lload_n 2, 1, 2, 0, 0, 0), (1, .lconst 1, 2, 0, 0, 0, 1), (2, .lcmp, 3, 0, 0, 0, 0), (3, .ifCond .le 9, 6, 12, 0, 0, 0), (6, .lload_n 0, 7, 0, 0, 0, 0), (7, .lload_n 2, 8, 2, 0, 0, 0), (8, .ldiv, 9, 0, 0, 0, 0), (9, .goto 4, 12, 13, 0, 0, 0), (12, .lload_n 0, 13, 0, 0, 0, 0), (13, .lreturn, 14, 0, 0, 0, 0)]
def s_X4_over : List (Int32 × Nat) := []
theorem r_X4_over : ∀ q ∈ k_X4_over, rz_row yX4_over.cls cX4_over 4 (some .long) false s_X4_over q.1 q.2 := rz_rows (by decide +kernel)
theorem m_X4_over : rz_MW yX4_over cX4_over 4 (some .long) 2 := ⟨bw_t 419 (by decide +kernel) rfl, bw_t 5 (by decide +kernel) rfl, by decide +kernel, by decide +kernel, by decide +kernel⟩
theorem t_X4_over : Cond.static yX4_over ∈ bw := bw_t 418 (by decide +kernel) rfl
def k_X4_putEdge : List (Nat × rz_I) := [(0, .aload_n 0, 1, 0, 0, 0, 0), (1, .getfield 21, 4, 0, 0, 0, 0), (4, .iload_n 1, 5, 1, 0, 0, 0), (5, .iload_n 2, 6, 2, 0, 0, 0), (6, .i2l, 7, 0, 0, 0, 0), (7, .lastore, 8, 0, 0, 0, 0), (8, .aload_n 0, 9, 0, 0, 0, 0), (9, .getfield 24, 12, 0, 0, 0, 0), (12, .iload_n 1, 13, 1, 0, 0, 0), (13, .iload_n 3, 14, 3, 0, 0, 0), (14, .i2l, 15, 0, 0, 0, 0), (15, .lastore, 16, 0, 0, 0, 0), (16, .return_, 17, 0, 0, 0, 0)]
def s_X4_putEdge : List (Int32 × Nat) := []
theorem r_X4_putEdge : ∀ q ∈ k_X4_putEdge, rz_row yX4_putEdge.cls cX4_putEdge 4 none false s_X4_putEdge q.1 q.2 := rz_rows (by decide +kernel)
theorem m_X4_putEdge : rz_MW yX4_putEdge cX4_putEdge 4 none 3 := ⟨bw_t 387 (by decide +kernel) rfl, bw_t 5 (by decide +kernel) rfl, by decide +kernel, by decide +kernel, by decide +kernel⟩
theorem i_X4_putEdge : Cond.instanceMethod yX4_putEdge ∈ bw := bw_t 386 (by decide +kernel) rfl
theorem v_X4_putEdge : Cond.selects yX4_putEdge.cls yX4_putEdge yX4_putEdge ∈ bw := bw_p 16 (by decide +kernel) rfl
def k_X4_putLeftSide : List (Nat × rz_I) := [(0, .aload_n 0, 1, 0, 0, 0, 0), (1, .getfield 11, 4, 0, 0, 0, 0), (4, .iload_n 1, 5, 1, 0, 0, 0), (5, .iload 5, 7, 5, 0, 0, 0), (7, .ineg, 8, 0, 0, 0, 0), (8, .i2l, 9, 0, 0, 0, 0), (9, .lastore, 10, 0, 0, 0, 0), (10, .aload_n 0, 11, 0, 0, 0, 0), (11, .getfield 15, 14, 0, 0, 0, 0), (14, .iload_n 1, 15, 1, 0, 0, 0), (15, .iload 4, 17, 4, 0, 0, 0), (17, .i2l, 18, 0, 0, 0, 0), (18, .lastore, 19, 0, 0, 0, 0), (19, .aload_n 0, 20, 0, 0, 0, 0), (20, .getfield 18, 23, 0, 0, 0, 0), (23, .iload_n 1, 24, 1, 0, 0, 0), (24, .iload 5, 26, 5, 0, 0, 0), (26, .ineg, 27, 0, 0, 0, 0), (27, .iload_n 2, 28, 2, 0, 0, 0), (28, .imul, 29, 0, 0, 0, 0), (29, .iload 4, 31, 4, 0, 0, 0), (31, .iload_n 3, 32, 3, 0, 0, 0), (32, .imul, 33, 0, 0, 0, 0), (33, .iadd, 34, 0, 0, 0, 0), (34, .i2l, 35, 0, 0, 0, 0), (35, .lastore, 36, 0, 0, 0, 0), (36, .return_, 37, 0, 0, 0, 0)]
def s_X4_putLeftSide : List (Int32 × Nat) := []
theorem r_X4_putLeftSide : ∀ q ∈ k_X4_putLeftSide, rz_row yX4_putLeftSide.cls cX4_putLeftSide 6 none false s_X4_putLeftSide q.1 q.2 := rz_rows (by decide +kernel)
theorem m_X4_putLeftSide : rz_MW yX4_putLeftSide cX4_putLeftSide 6 none 5 := ⟨bw_t 383 (by decide +kernel) rfl, bw_t 5 (by decide +kernel) rfl, by decide +kernel, by decide +kernel, by decide +kernel⟩
theorem i_X4_putLeftSide : Cond.instanceMethod yX4_putLeftSide ∈ bw := bw_t 382 (by decide +kernel) rfl
theorem v_X4_putLeftSide : Cond.selects yX4_putLeftSide.cls yX4_putLeftSide yX4_putLeftSide ∈ bw := bw_p 15 (by decide +kernel) rfl
def k_X4_runsInside : List (Nat × rz_I) := [(0, .iconst 0, 1, 0, 0, 0, 0), (1, .istore 5, 3, 5, 0, 0, 0), (3, .iload 5, 5, 5, 0, 0, 0), (5, .iconst 4, 6, 0, 0, 4, 0), (6, .if_icmp .ge 35, 9, 41, 0, 0, 0), (9, .aload_n 0, 10, 0, 0, 0, 0), (10, .getfield 11, 13, 0, 0, 0, 0), (13, .iload 5, 15, 5, 0, 0, 0), (15, .laload, 16, 0, 0, 0, 0), (16, .lload_n 1, 17, 1, 0, 0, 0), (17, .lmul, 18, 0, 0, 0, 0), (18, .aload_n 0, 19, 0, 0, 0, 0), (19, .getfield 15, 22, 0, 0, 0, 0), (22, .iload 5, 24, 5, 0, 0, 0), (24, .laload, 25, 0, 0, 0, 0), (25, .lload_n 3, 26, 3, 0, 0, 0), (26, .lmul, 27, 0, 0, 0, 0), (27, .ladd, 28, 0, 0, 0, 0), (28, .lconst 0, 29, 0, 0, 0, 0), (29, .lcmp, 30, 0, 0, 0, 0), (30, .ifCond .ge 5, 33, 35, 0, 0, 0), (33, .iconst 0, 34, 0, 0, 0, 0), (34, .ireturn, 35, 0, 0, 0, 0), (35, .iinc 5 1, 38, 5, 0, 1, 0), (38, .goto (-35), 41, 3, 0, 0, 0), (41, .iconst 1, 42, 0, 0, 1, 0), (42, .ireturn, 43, 0, 0, 0, 0)]
def s_X4_runsInside : List (Int32 × Nat) := []
theorem r_X4_runsInside : ∀ q ∈ k_X4_runsInside, rz_row yX4_runsInside.cls cX4_runsInside 6 (some .boolean) true s_X4_runsInside q.1 q.2 := rz_rows (by decide +kernel)
theorem m_X4_runsInside : rz_MW yX4_runsInside cX4_runsInside 6 (some .boolean) 2 := ⟨bw_t 431 (by decide +kernel) rfl, bw_t 5 (by decide +kernel) rfl, by decide +kernel, by decide +kernel, by decide +kernel⟩
theorem i_X4_runsInside : Cond.instanceMethod yX4_runsInside ∈ bw := bw_t 430 (by decide +kernel) rfl
theorem v_X4_runsInside : Cond.selects yX4_runsInside.cls yX4_runsInside yX4_runsInside ∈ bw := bw_p 24 (by decide +kernel) rfl
def k_X4_tryCrossing : List (Nat × rz_I) := [(0, .aload_n 0, 1, 0, 0, 0, 0), (1, .getfield 11, 4, 0, 0, 0, 0), (4, .iload_n 1, 5, 1, 0, 0, 0), (5, .laload, 6, 0, 0, 0, 0), (6, .aload_n 0, 7, 0, 0, 0, 0), (7, .getfield 15, 10, 0, 0, 0, 0), (10, .iload_n 2, 11, 2, 0, 0, 0), (11, .laload, 12, 0, 0, 0, 0), (12, .lmul, 13, 0, 0, 0, 0), (13, .aload_n 0, 14, 0, 0, 0, 0), (14, .getfield 11, 17, 0, 0, 0, 0), (17, .iload_n 2, 18, 2, 0, 0, 0), (18, .laload, 19, 0, 0, 0, 0), (19, .aload_n 0, 20, 0, 0, 0, 0), (20, .getfield 15, 23, 0, 0, 0, 0), (23, .iload_n 1, 24, 1, 0, 0, 0), (24, .laload, 25, 0, 0, 0, 0), (25, .lmul, 26, 0, 0, 0, 0), (26, .lsub, 27, 0, 0, 0, 0), (27, .lstore_n 3, 28, 3, 0, 0, 0), (28, .lload_n 3, 29, 3, 0, 0, 0), (29, .lconst 0, 30, 0, 0, 0, 0), (30, .lcmp, 31, 0, 0, 0, 0), (31, .ifCond .ne 4, 34, 35, 0, 0, 0), (34, .return_, 35, 0, 0, 0, 0), (35, .aload_n 0, 36, 0, 0, 0, 0), (36, .getfield 18, 39, 0, 0, 0, 0), (39, .iload_n 1, 40, 1, 0, 0, 0), (40, .laload, 41, 0, 0, 0, 0), (41, .aload_n 0, 42, 0, 0, 0, 0), (42, .getfield 15, 45, 0, 0, 0, 0), (45, .iload_n 2, 46, 2, 0, 0, 0), (46, .laload, 47, 0, 0, 0, 0), (47, .lmul, 48, 0, 0, 0, 0), (48, .aload_n 0, 49, 0, 0, 0, 0), (49, .getfield 18, 52, 0, 0, 0, 0), (52, .iload_n 2, 53, 2, 0, 0, 0), (53, .laload, 54, 0, 0, 0, 0), (54, .aload_n 0, 55, 0, 0, 0, 0), (55, .getfield 15, 58, 0, 0, 0, 0), (58, .iload_n 1, 59, 1, 0, 0, 0), (59, .laload, 60, 0, 0, 0, 0), (60, .lmul, 61, 0, 0, 0, 0), (61, .lsub, 62, 0, 0, 0, 0), (62, .lstore 5, 64, 5, 0, 0, 0), (64, .aload_n 0, 65, 0, 0, 0, 0), (65, .getfield 11, 68, 0, 0, 0, 0), (68, .iload_n 1, 69, 1, 0, 0, 0), (69, .laload, 70, 0, 0, 0, 0), (70, .aload_n 0, 71, 0, 0, 0, 0), (71, .getfield 18, 74, 0, 0, 0, 0), (74, .iload_n 2, 75, 2, 0, 0, 0), (75, .laload, 76, 0, 0, 0, 0), (76, .lmul, 77, 0, 0, 0, 0), (77, .aload_n 0, 78, 0, 0, 0, 0), (78, .getfield 11, 81, 0, 0, 0, 0), (81, .iload_n 2, 82, 2, 0, 0, 0), (82, .laload, 83, 0, 0, 0, 0), (83, .aload_n 0, 84, 0, 0, 0, 0), (84, .getfield 18, 87, 0, 0, 0, 0), (87, .iload_n 1, 88, 1, 0, 0, 0), (88, .laload, 89, 0, 0, 0, 0), (89, .lmul, 90, 0, 0, 0, 0), (90, .lsub, 91, 0, 0, 0, 0), (91, .lstore 7, 93, 7, 0, 0, 0), (93, .lload_n 3, 94, 3, 0, 0, 0), (94, .lconst 0, 95, 0, 0, 0, 0), (95, .lcmp, 96, 0, 0, 0, 0), (96, .ifCond .ge 16, 99, 112, 0, 0, 0), (99, .lload_n 3, 100, 3, 0, 0, 0), (100, .lneg, 101, 0, 0, 0, 0), (101, .lstore_n 3, 102, 3, 0, 0, 0), (102, .lload 5, 104, 5, 0, 0, 0), (104, .lneg, 105, 0, 0, 0, 0), (105, .lstore 5, 107, 5, 0, 0, 0), (107, .lload 7, 109, 7, 0, 0, 0), (109, .lneg, 110, 0, 0, 0, 0), (110, .lstore 7, 112, 7, 0, 0, 0), (112, .aload_n 0, 113, 0, 0, 0, 0), (113, .lload 5, 115, 5, 0, 0, 0), (115, .lload 7, 117, 7, 0, 0, 0), (117, .lload_n 3, 118, 3, 0, 0, 0), (118, .invokevirtual 47, 121, 0, 0, 0, 0), (121, .ifCond .eq 12, 124, 133, 0, 0, 0), (124, .aload_n 0, 125, 0, 0, 0, 0), (125, .lload 5, 127, 5, 0, 0, 0), (127, .lload 7, 129, 7, 0, 0, 0), (129, .lload_n 3, 130, 3, 0, 0, 0), (130, .invokevirtual 51, 133, 0, 0, 0, 0), (133, .return_, 134, 0, 0, 0, 0)]
def s_X4_tryCrossing : List (Int32 × Nat) := []
theorem r_X4_tryCrossing : ∀ q ∈ k_X4_tryCrossing, rz_row yX4_tryCrossing.cls cX4_tryCrossing 9 none false s_X4_tryCrossing q.1 q.2 := rz_rows (by decide +kernel)
theorem m_X4_tryCrossing : rz_MW yX4_tryCrossing cX4_tryCrossing 9 none 2 := ⟨bw_t 395 (by decide +kernel) rfl, bw_t 5 (by decide +kernel) rfl, by decide +kernel, by decide +kernel, by decide +kernel⟩
theorem i_X4_tryCrossing : Cond.instanceMethod yX4_tryCrossing ∈ bw := bw_t 394 (by decide +kernel) rfl
theorem v_X4_tryCrossing : Cond.selects yX4_tryCrossing.cls yX4_tryCrossing yX4_tryCrossing ∈ bw := bw_p 18 (by decide +kernel) rfl
def k_X5_add : List (Nat × rz_I) := [(0, .aload_n 0, 1, 0, 0, 0, 0), (1, .getfield 33, 4, 0, 0, 0, 0), (4, .bipush 100, 6, 0, 0, 100, 0), (6, .if_icmp .lt 5, 9, 11, 0, 0, 0), (9, .iconst (-1), 10, 0, 0, (-1), 0), (10, .ireturn, 11, 0, 0, 0, 0), (11, .aload_n 0, 12, 0, 0, 0, 0), (12, .getfield 9, 15, 0, 0, 0, 0), (15, .aload_n 0, 16, 0, 0, 0, 0), (16, .getfield 33, 19, 0, 0, 0, 0), (19, .iload_n 1, 20, 1, 0, 0, 0), (20, .iastore, 21, 0, 0, 0, 0), (21, .aload_n 0, 22, 0, 0, 0, 0), (22, .getfield 15, 25, 0, 0, 0, 0), (25, .aload_n 0, 26, 0, 0, 0, 0), (26, .getfield 33, 29, 0, 0, 0, 0), (29, .iload_n 2, 30, 2, 0, 0, 0), (30, .iastore, 31, 0, 0, 0, 0), (31, .aload_n 0, 32, 0, 0, 0, 0), (32, .getfield 18, 35, 0, 0, 0, 0), (35, .aload_n 0, 36, 0, 0, 0, 0), (36, .getfield 33, 39, 0, 0, 0, 0), (39, .iload_n 3, 40, 3, 0, 0, 0), (40, .iastore, 41, 0, 0, 0, 0), (41, .aload_n 0, 42, 0, 0, 0, 0), (42, .dup, 43, 0, 0, 0, 0), (43, .getfield 33, 46, 0, 0, 0, 0), (46, .iconst 1, 47, 0, 0, 1, 0), (47, .iadd, 48, 0, 0, 0, 0), (48, .putfield 33, 51, 0, 0, 0, 0), (51, .aload_n 0, 52, 0, 0, 0, 0), (52, .getfield 33, 55, 0, 0, 0, 0), (55, .iconst 1, 56, 0, 0, 1, 0), (56, .isub, 57, 0, 0, 0, 0), (57, .ireturn, 58, 0, 0, 0, 0)]
def s_X5_add : List (Int32 × Nat) := []
theorem r_X5_add : ∀ q ∈ k_X5_add, rz_row yX5_add.cls cX5_add 4 (some .int) false s_X5_add q.1 q.2 := rz_rows (by decide +kernel)
theorem m_X5_add : rz_MW yX5_add cX5_add 4 (some .int) 3 := ⟨bw_t 354 (by decide +kernel) rfl, bw_t 4 (by decide +kernel) rfl, by decide +kernel, by decide +kernel, by decide +kernel⟩
theorem i_X5_add : Cond.instanceMethod yX5_add ∈ bw := bw_t 353 (by decide +kernel) rfl
theorem v_X5_add : Cond.selects yX5_add.cls yX5_add yX5_add ∈ bw := bw_p 9 (by decide +kernel) rfl
def k_X5_canMeet : List (Nat × rz_I) := [(0, .aload_n 0, 1, 0, 0, 0, 0), (1, .getfield 9, 4, 0, 0, 0, 0), (4, .iload_n 1, 5, 1, 0, 0, 0), (5, .iaload, 6, 0, 0, 0, 0), (6, .aload_n 0, 7, 0, 0, 0, 0), (7, .getfield 9, 10, 0, 0, 0, 0), (10, .iload_n 2, 11, 2, 0, 0, 0), (11, .iaload, 12, 0, 0, 0, 0), (12, .if_icmp .ne 22, 15, 34, 0, 0, 0), (15, .aload_n 0, 16, 0, 0, 0, 0), (16, .getfield 15, 19, 0, 0, 0, 0), (19, .iload_n 1, 20, 1, 0, 0, 0), (20, .iaload, 21, 0, 0, 0, 0), (21, .aload_n 0, 22, 0, 0, 0, 0), (22, .getfield 15, 25, 0, 0, 0, 0), (25, .iload_n 2, 26, 2, 0, 0, 0), (26, .iaload, 27, 0, 0, 0, 0), (27, .if_icmp .ne 7, 30, 34, 0, 0, 0), (30, .iconst 1, 31, 0, 0, 1, 0), (31, .goto 4, 34, 35, 0, 0, 0), (34, .iconst 0, 35, 0, 0, 0, 0), (35, .istore_n 3, 36, 3, 0, 0, 0), (36, .aload_n 0, 37, 0, 0, 0, 0), (37, .getfield 18, 40, 0, 0, 0, 0), (40, .iload_n 1, 41, 1, 0, 0, 0), (41, .iaload, 42, 0, 0, 0, 0), (42, .aload_n 0, 43, 0, 0, 0, 0), (43, .getfield 18, 46, 0, 0, 0, 0), (46, .iload_n 2, 47, 2, 0, 0, 0), (47, .iaload, 48, 0, 0, 0, 0), (48, .if_icmp .ne 11, 51, 59, 0, 0, 0), (51, .iload_n 3, 52, 3, 0, 0, 0), (52, .ifCond .ne 7, 55, 59, 0, 0, 0), (55, .iconst 1, 56, 0, 0, 1, 0), (56, .goto 4, 59, 60, 0, 0, 0), (59, .iconst 0, 60, 0, 0, 0, 0), (60, .ireturn, 61, 0, 0, 0, 0)]
def s_X5_canMeet : List (Int32 × Nat) := []
theorem r_X5_canMeet : ∀ q ∈ k_X5_canMeet, rz_row yX5_canMeet.cls cX5_canMeet 4 (some .boolean) true s_X5_canMeet q.1 q.2 := rz_rows (by decide +kernel)
theorem m_X5_canMeet : rz_MW yX5_canMeet cX5_canMeet 4 (some .boolean) 2 := ⟨bw_t 375 (by decide +kernel) rfl, bw_t 4 (by decide +kernel) rfl, by decide +kernel, by decide +kernel, by decide +kernel⟩
theorem i_X5_canMeet : Cond.instanceMethod yX5_canMeet ∈ bw := bw_t 374 (by decide +kernel) rfl
theorem v_X5_canMeet : Cond.selects yX5_canMeet.cls yX5_canMeet yX5_canMeet ∈ bw := bw_p 13 (by decide +kernel) rfl
def k_X5_has : List (Nat × rz_I) := [(0, .iload_n 1, 1, 1, 0, 0, 0), (1, .iconst 0, 2, 0, 0, 0, 0), (2, .aload_n 0, 3, 0, 0, 0, 0), (3, .getfield 33, 6, 0, 0, 0, 0), (6, .iconst 1, 7, 0, 0, 1, 0), (7, .isub, 8, 0, 0, 0, 0), (8, .invokestatic 37, 11, 0, 0, 0, 0), (11, .ireturn, 12, 0, 0, 0, 0)]
def s_X5_has : List (Int32 × Nat) := []
theorem r_X5_has : ∀ q ∈ k_X5_has, rz_row yX5_has.cls cX5_has 2 (some .boolean) true s_X5_has q.1 q.2 := rz_rows (by decide +kernel)
theorem m_X5_has : rz_MW yX5_has cX5_has 2 (some .boolean) 1 := ⟨bw_t 370 (by decide +kernel) rfl, bw_t 4 (by decide +kernel) rfl, by decide +kernel, by decide +kernel, by decide +kernel⟩
theorem i_X5_has : Cond.instanceMethod yX5_has ∈ bw := bw_t 369 (by decide +kernel) rfl
theorem v_X5_has : Cond.selects yX5_has.cls yX5_has yX5_has ∈ bw := bw_p 12 (by decide +kernel) rfl
def k_X5_putHalfPlanes : List (Nat × rz_I) := [(0, .aload_n 3, 1, 3, 0, 0, 0), (1, .iload_n 2, 2, 2, 0, 0, 0), (2, .aload_n 0, 3, 0, 0, 0, 0), (3, .getfield 9, 6, 0, 0, 0, 0), (6, .iload_n 1, 7, 1, 0, 0, 0), (7, .iaload, 8, 0, 0, 0, 0), (8, .aload_n 0, 9, 0, 0, 0, 0), (9, .getfield 15, 12, 0, 0, 0, 0), (12, .iload_n 1, 13, 1, 0, 0, 0), (13, .iaload, 14, 0, 0, 0, 0), (14, .aload_n 0, 15, 0, 0, 0, 0), (15, .getfield 21, 18, 0, 0, 0, 0), (18, .iload_n 1, 19, 1, 0, 0, 0), (19, .iaload, 20, 0, 0, 0, 0), (20, .aload_n 0, 21, 0, 0, 0, 0), (21, .getfield 24, 24, 0, 0, 0, 0), (24, .iload_n 1, 25, 1, 0, 0, 0), (25, .iaload, 26, 0, 0, 0, 0), (26, .invokevirtual 41, 29, 0, 0, 0, 0), (29, .aload_n 3, 30, 3, 0, 0, 0), (30, .iload_n 2, 31, 2, 0, 0, 0), (31, .iconst 1, 32, 0, 0, 1, 0), (32, .iadd, 33, 0, 0, 0, 0), (33, .aload_n 0, 34, 0, 0, 0, 0), (34, .getfield 9, 37, 0, 0, 0, 0), (37, .iload_n 1, 38, 1, 0, 0, 0), (38, .iaload, 39, 0, 0, 0, 0), (39, .aload_n 0, 40, 0, 0, 0, 0), (40, .getfield 15, 43, 0, 0, 0, 0), (43, .iload_n 1, 44, 1, 0, 0, 0), (44, .iaload, 45, 0, 0, 0, 0), (45, .aload_n 0, 46, 0, 0, 0, 0), (46, .getfield 27, 49, 0, 0, 0, 0), (49, .iload_n 1, 50, 1, 0, 0, 0), (50, .iaload, 51, 0, 0, 0, 0), (51, .ineg, 52, 0, 0, 0, 0), (52, .aload_n 0, 53, 0, 0, 0, 0), (53, .getfield 30, 56, 0, 0, 0, 0), (56, .iload_n 1, 57, 1, 0, 0, 0), (57, .iaload, 58, 0, 0, 0, 0), (58, .ineg, 59, 0, 0, 0, 0), (59, .invokevirtual 41, 62, 0, 0, 0, 0), (62, .aload_n 3, 63, 3, 0, 0, 0), (63, .iload_n 2, 64, 2, 0, 0, 0), (64, .aload_n 0, 65, 0, 0, 0, 0), (65, .getfield 21, 68, 0, 0, 0, 0), (68, .iload_n 1, 69, 1, 0, 0, 0), (69, .iaload, 70, 0, 0, 0, 0), (70, .aload_n 0, 71, 0, 0, 0, 0), (71, .getfield 24, 74, 0, 0, 0, 0), (74, .iload_n 1, 75, 1, 0, 0, 0), (75, .iaload, 76, 0, 0, 0, 0), (76, .invokevirtual 47, 79, 0, 0, 0, 0), (79, .aload_n 3, 80, 3, 0, 0, 0), (80, .iload_n 2, 81, 2, 0, 0, 0), (81, .iconst 1, 82, 0, 0, 1, 0), (82, .iadd, 83, 0, 0, 0, 0), (83, .aload_n 0, 84, 0, 0, 0, 0), (84, .getfield 27, 87, 0, 0, 0, 0), (87, .iload_n 1, 88, 1, 0, 0, 0), (88, .iaload, 89, 0, 0, 0, 0), (89, .aload_n 0, 90, 0, 0, 0, 0), (90, .getfield 30, 93, 0, 0, 0, 0), (93, .iload_n 1, 94, 1, 0, 0, 0), (94, .iaload, 95, 0, 0, 0, 0), (95, .invokevirtual 47, 98, 0, 0, 0, 0), (98, .return_, 99, 0, 0, 0, 0)]
def s_X5_putHalfPlanes : List (Int32 × Nat) := []
theorem r_X5_putHalfPlanes : ∀ q ∈ k_X5_putHalfPlanes, rz_row yX5_putHalfPlanes.cls cX5_putHalfPlanes 4 none false s_X5_putHalfPlanes q.1 q.2 := rz_rows (by decide +kernel)
theorem m_X5_putHalfPlanes : rz_MW yX5_putHalfPlanes cX5_putHalfPlanes 4 none 3 := ⟨bw_t 379 (by decide +kernel) rfl, bw_t 4 (by decide +kernel) rfl, by decide +kernel, by decide +kernel, by decide +kernel⟩
theorem i_X5_putHalfPlanes : Cond.instanceMethod yX5_putHalfPlanes ∈ bw := bw_t 378 (by decide +kernel) rfl
theorem v_X5_putHalfPlanes : Cond.selects yX5_putHalfPlanes.cls yX5_putHalfPlanes yX5_putHalfPlanes ∈ bw := bw_p 14 (by decide +kernel) rfl
def k_X5_setEdges : List (Nat × rz_I) := [(0, .aload_n 0, 1, 0, 0, 0, 0), (1, .getfield 21, 4, 0, 0, 0, 0), (4, .iload_n 1, 5, 1, 0, 0, 0), (5, .iload_n 2, 6, 2, 0, 0, 0), (6, .iastore, 7, 0, 0, 0, 0), (7, .aload_n 0, 8, 0, 0, 0, 0), (8, .getfield 24, 11, 0, 0, 0, 0), (11, .iload_n 1, 12, 1, 0, 0, 0), (12, .iload_n 3, 13, 3, 0, 0, 0), (13, .iastore, 14, 0, 0, 0, 0), (14, .aload_n 0, 15, 0, 0, 0, 0), (15, .getfield 27, 18, 0, 0, 0, 0), (18, .iload_n 1, 19, 1, 0, 0, 0), (19, .iload 4, 21, 4, 0, 0, 0), (21, .iastore, 22, 0, 0, 0, 0), (22, .aload_n 0, 23, 0, 0, 0, 0), (23, .getfield 30, 26, 0, 0, 0, 0), (26, .iload_n 1, 27, 1, 0, 0, 0), (27, .iload 5, 29, 5, 0, 0, 0), (29, .iastore, 30, 0, 0, 0, 0), (30, .return_, 31, 0, 0, 0, 0)]
def s_X5_setEdges : List (Int32 × Nat) := []
theorem r_X5_setEdges : ∀ q ∈ k_X5_setEdges, rz_row yX5_setEdges.cls cX5_setEdges 6 none false s_X5_setEdges q.1 q.2 := rz_rows (by decide +kernel)
theorem m_X5_setEdges : rz_MW yX5_setEdges cX5_setEdges 6 none 5 := ⟨bw_t 358 (by decide +kernel) rfl, bw_t 4 (by decide +kernel) rfl, by decide +kernel, by decide +kernel, by decide +kernel⟩
theorem i_X5_setEdges : Cond.instanceMethod yX5_setEdges ∈ bw := bw_t 357 (by decide +kernel) rfl
theorem v_X5_setEdges : Cond.selects yX5_setEdges.cls yX5_setEdges yX5_setEdges ∈ bw := bw_p 10 (by decide +kernel) rfl
def k_X6_boat : List (Nat × rz_I) := [(0, .aload_n 0, 1, 0, 0, 0, 0), (1, .getfield 40, 4, 0, 0, 0, 0), (4, .iload_n 1, 5, 1, 0, 0, 0), (5, .invokevirtual 150, 8, 0, 0, 0, 0), (8, .ifCond .eq 27, 11, 35, 0, 0, 0), (11, .iload_n 2, 12, 2, 0, 0, 0), (12, .iconst 0, 13, 0, 0, 0, 0), (13, .aload_n 0, 14, 0, 0, 0, 0), (14, .getfield 51, 17, 0, 0, 0, 0), (17, .invokestatic 59, 20, 0, 0, 0, 0), (20, .ifCond .eq 15, 23, 35, 0, 0, 0), (23, .iload_n 3, 24, 3, 0, 0, 0), (24, .iconst 0, 25, 0, 0, 0, 0), (25, .aload_n 0, 26, 0, 0, 0, 0), (26, .getfield 51, 29, 0, 0, 0, 0), (29, .invokestatic 59, 32, 0, 0, 0, 0), (32, .ifCond .ne 5, 35, 37, 0, 0, 0), (35, .iconst (-1), 36, 0, 0, (-1), 0), (36, .ireturn, 37, 0, 0, 0, 0), (37, .aload_n 0, 38, 0, 0, 0, 0), (38, .getfield 40, 41, 0, 0, 0, 0), (41, .iload_n 1, 42, 1, 0, 0, 0), (42, .iload_n 2, 43, 2, 0, 0, 0), (43, .iload_n 3, 44, 3, 0, 0, 0), (44, .invokevirtual 159, 47, 0, 0, 0, 0), (47, .ireturn, 48, 0, 0, 0, 0)]
def s_X6_boat : List (Int32 × Nat) := []
theorem r_X6_boat : ∀ q ∈ k_X6_boat, rz_row yX6_boat.cls cX6_boat 4 (some .int) false s_X6_boat q.1 q.2 := rz_rows (by decide +kernel)
theorem m_X6_boat : rz_MW yX6_boat cX6_boat 4 (some .int) 3 := ⟨bw_t 531 (by decide +kernel) rfl, bw_t 1 (by decide +kernel) rfl, by decide +kernel, by decide +kernel, by decide +kernel⟩
theorem i_X6_boat : Cond.instanceMethod yX6_boat ∈ bw := bw_t 529 (by decide +kernel) rfl
theorem v_X6_boat : Cond.selects yX6_boat.cls yX6_boat yX6_boat ∈ bw := bw_t 530 (by decide +kernel) rfl
def k_X6_box : List (Nat × rz_I) := [(0, .aload_n 0, 1, 0, 0, 0, 0), (1, .iload_n 1, 2, 1, 0, 0, 0), (2, .iload_n 2, 3, 2, 0, 0, 0), (3, .invokevirtual 109, 6, 0, 0, 0, 0), (6, .iconst 1, 7, 0, 0, 1, 0), (7, .if_icmp .ne 12, 10, 19, 0, 0, 0), (10, .iload_n 3, 11, 3, 0, 0, 0), (11, .iconst 0, 12, 0, 0, 0, 0), (12, .iconst 3, 13, 0, 0, 3, 0), (13, .invokestatic 59, 16, 0, 0, 0, 0), (16, .ifCond .ne 11, 19, 27, 0, 0, 0), (19, .new 115, 22, 0, 0, 0, 0), (22, .dup, 23, 0, 0, 0, 0), (23, .invokespecial 117, 26, 0, 0, 0, 0), (26, .athrow, 27, 0, 0, 0, 0), (27, .aload_n 0, 28, 0, 0, 0, 0), (28, .getfield 26, 31, 0, 0, 0, 0), (31, .iload_n 3, 32, 3, 0, 0, 0), (32, .invokevirtual 122, 35, 0, 0, 0, 0), (35, .ireturn, 36, 0, 0, 0, 0)]
def s_X6_box : List (Int32 × Nat) := []
theorem r_X6_box : ∀ q ∈ k_X6_box, rz_row yX6_box.cls cX6_box 4 (some .int) false s_X6_box q.1 q.2 := rz_rows (by decide +kernel)
theorem m_X6_box : rz_MW yX6_box cX6_box 4 (some .int) 3 := ⟨bw_t 673 (by decide +kernel) rfl, bw_t 1 (by decide +kernel) rfl, by decide +kernel, by decide +kernel, by decide +kernel⟩
theorem i_X6_box : Cond.instanceMethod yX6_box ∈ bw := bw_t 671 (by decide +kernel) rfl
theorem v_X6_box : Cond.selects yX6_box.cls yX6_box yX6_box ∈ bw := bw_t 672 (by decide +kernel) rfl
def k_X6_call : List (Nat × rz_I) := [(0, .iload_n 1, 1, 1, 0, 0, 0), (1, .iconst 0, 2, 0, 0, 0, 0), (2, .iconst 4, 3, 0, 0, 4, 0), (3, .invokestatic 59, 6, 0, 0, 0, 0), (6, .ifCond .eq 14, 9, 20, 0, 0, 0), (9, .iload_n 2, 10, 2, 0, 0, 0), (10, .iconst (-1), 11, 0, 0, (-1), 0), (11, .sipush 2000, 14, 0, 0, 2000, 0), (14, .invokestatic 59, 17, 0, 0, 0, 0), (17, .ifCond .ne 5, 20, 22, 0, 0, 0), (20, .iconst 0, 21, 0, 0, 0, 0), (21, .ireturn, 22, 0, 0, 0, 0), (22, .aload_n 0, 23, 0, 0, 0, 0), (23, .getfield 47, 26, 0, 0, 0, 0), (26, .getfield 162, 29, 0, 0, 0, 0), (29, .iload_n 1, 30, 1, 0, 0, 0), (30, .iload_n 2, 31, 2, 0, 0, 0), (31, .iastore, 32, 0, 0, 0, 0), (32, .iconst 1, 33, 0, 0, 1, 0), (33, .ireturn, 34, 0, 0, 0, 0)]
def s_X6_call : List (Int32 × Nat) := []
theorem r_X6_call : ∀ q ∈ k_X6_call, rz_row yX6_call.cls cX6_call 3 (some .boolean) true s_X6_call q.1 q.2 := rz_rows (by decide +kernel)
theorem m_X6_call : rz_MW yX6_call cX6_call 3 (some .boolean) 2 := ⟨bw_t 543 (by decide +kernel) rfl, bw_t 1 (by decide +kernel) rfl, by decide +kernel, by decide +kernel, by decide +kernel⟩
theorem i_X6_call : Cond.instanceMethod yX6_call ∈ bw := bw_t 541 (by decide +kernel) rfl
theorem v_X6_call : Cond.selects yX6_call.cls yX6_call yX6_call ∈ bw := bw_t 542 (by decide +kernel) rfl
def k_X6_corner : List (Nat × rz_I) := [(0, .aload_n 0, 1, 0, 0, 0, 0), (1, .iload_n 1, 2, 1, 0, 0, 0), (2, .iload_n 2, 3, 2, 0, 0, 0), (3, .invokevirtual 109, 6, 0, 0, 0, 0), (6, .iconst 1, 7, 0, 0, 1, 0), (7, .if_icmp .ne 30, 10, 37, 0, 0, 0), (10, .iload_n 3, 11, 3, 0, 0, 0), (11, .iconst 0, 12, 0, 0, 0, 0), (12, .aload_n 0, 13, 0, 0, 0, 0), (13, .getfield 26, 16, 0, 0, 0, 0), (16, .getfield 112, 19, 0, 0, 0, 0), (19, .iconst 1, 20, 0, 0, 1, 0), (20, .isub, 21, 0, 0, 0, 0), (21, .invokestatic 59, 24, 0, 0, 0, 0), (24, .ifCond .eq 13, 27, 37, 0, 0, 0), (27, .iload 4, 29, 4, 0, 0, 0), (29, .iconst 0, 30, 0, 0, 0, 0), (30, .iconst 3, 31, 0, 0, 3, 0), (31, .invokestatic 59, 34, 0, 0, 0, 0), (34, .ifCond .ne 11, 37, 45, 0, 0, 0), (37, .new 115, 40, 0, 0, 0, 0), (40, .dup, 41, 0, 0, 0, 0), (41, .invokespecial 117, 44, 0, 0, 0, 0), (44, .athrow, 45, 0, 0, 0, 0), (45, .aload_n 0, 46, 0, 0, 0, 0), (46, .getfield 26, 49, 0, 0, 0, 0), (49, .iload_n 3, 50, 3, 0, 0, 0), (50, .iload 4, 52, 4, 0, 0, 0), (52, .invokevirtual 118, 55, 0, 0, 0, 0), (55, .lreturn, 56, 0, 0, 0, 0)]
def s_X6_corner : List (Int32 × Nat) := []
theorem r_X6_corner : ∀ q ∈ k_X6_corner, rz_row yX6_corner.cls cX6_corner 5 (some .long) false s_X6_corner q.1 q.2 := rz_rows (by decide +kernel)
theorem m_X6_corner : rz_MW yX6_corner cX6_corner 5 (some .long) 4 := ⟨bw_t 601 (by decide +kernel) rfl, bw_t 1 (by decide +kernel) rfl, by decide +kernel, by decide +kernel, by decide +kernel⟩
theorem i_X6_corner : Cond.instanceMethod yX6_corner ∈ bw := bw_t 599 (by decide +kernel) rfl
theorem v_X6_corner : Cond.selects yX6_corner.cls yX6_corner yX6_corner ∈ bw := bw_t 600 (by decide +kernel) rfl
def k_X6_corners : List (Nat × rz_I) := [(0, .aload_n 0, 1, 0, 0, 0, 0), (1, .iload_n 1, 2, 1, 0, 0, 0), (2, .iload_n 2, 3, 2, 0, 0, 0), (3, .invokevirtual 109, 6, 0, 0, 0, 0), (6, .iconst 1, 7, 0, 0, 1, 0), (7, .if_icmp .ne 13, 10, 20, 0, 0, 0), (10, .aload_n 0, 11, 0, 0, 0, 0), (11, .getfield 26, 14, 0, 0, 0, 0), (14, .getfield 112, 17, 0, 0, 0, 0), (17, .goto 4, 20, 21, 0, 0, 0), (20, .iconst (-1), 21, 0, 0, (-1), 0), (21, .ireturn, 22, 0, 0, 0, 0)]
def s_X6_corners : List (Int32 × Nat) := []
theorem r_X6_corners : ∀ q ∈ k_X6_corners, rz_row yX6_corners.cls cX6_corners 3 (some .int) false s_X6_corners q.1 q.2 := rz_rows (by decide +kernel)
theorem m_X6_corners : rz_MW yX6_corners cX6_corners 3 (some .int) 2 := ⟨bw_t 435 (by decide +kernel) rfl, bw_t 1 (by decide +kernel) rfl, by decide +kernel, by decide +kernel, by decide +kernel⟩
theorem i_X6_corners : Cond.instanceMethod yX6_corners ∈ bw := bw_t 433 (by decide +kernel) rfl
theorem v_X6_corners : Cond.selects yX6_corners.cls yX6_corners yX6_corners ∈ bw := bw_t 434 (by decide +kernel) rfl
def k_X6_count : List (Nat × rz_I) := [(0, .iload_n 1, 1, 1, 0, 0, 0), (1, .tableswitch 124 0 8 #[51, 56, 64, 72, 80, 88, 96, 104, 112], 52, 125, 0, 0, 0), (52, .aload_n 0, 53, 0, 0, 0, 0), (53, .getfield 51, 56, 0, 0, 0, 0), (56, .ireturn, 57, 0, 0, 0, 0), (57, .aload_n 0, 58, 0, 0, 0, 0), (58, .getfield 10, 61, 0, 0, 0, 0), (61, .getfield 170, 64, 0, 0, 0, 0), (64, .ireturn, 65, 0, 0, 0, 0), (65, .aload_n 0, 66, 0, 0, 0, 0), (66, .getfield 10, 69, 0, 0, 0, 0), (69, .getfield 173, 72, 0, 0, 0, 0), (72, .ireturn, 73, 0, 0, 0, 0), (73, .aload_n 0, 74, 0, 0, 0, 0), (74, .getfield 19, 77, 0, 0, 0, 0), (77, .getfield 176, 80, 0, 0, 0, 0), (80, .ireturn, 81, 0, 0, 0, 0), (81, .aload_n 0, 82, 0, 0, 0, 0), (82, .getfield 33, 85, 0, 0, 0, 0), (85, .getfield 179, 88, 0, 0, 0, 0), (88, .ireturn, 89, 0, 0, 0, 0), (89, .aload_n 0, 90, 0, 0, 0, 0), (90, .getfield 33, 93, 0, 0, 0, 0), (93, .getfield 180, 96, 0, 0, 0, 0), (96, .ireturn, 97, 0, 0, 0, 0), (97, .aload_n 0, 98, 0, 0, 0, 0), (98, .getfield 40, 101, 0, 0, 0, 0), (101, .getfield 183, 104, 0, 0, 0, 0), (104, .ireturn, 105, 0, 0, 0, 0), (105, .aload_n 0, 106, 0, 0, 0, 0), (106, .getfield 47, 109, 0, 0, 0, 0), (109, .getfield 184, 112, 0, 0, 0, 0), (112, .ireturn, 113, 0, 0, 0, 0), (113, .aload_n 0, 114, 0, 0, 0, 0), (114, .getfield 40, 117, 0, 0, 0, 0), (117, .aload_n 0, 118, 0, 0, 0, 0), (118, .getfield 51, 121, 0, 0, 0, 0), (121, .invokevirtual 187, 124, 0, 0, 0, 0), (124, .ireturn, 125, 0, 0, 0, 0), (125, .iconst (-1), 126, 0, 0, (-1), 0), (126, .ireturn, 127, 0, 0, 0, 0)]
def s_X6_count : List (Int32 × Nat) := [(0, 52), (1, 57), (2, 65), (3, 73), (4, 81), (5, 89), (6, 97), (7, 105), (8, 113)]
theorem r_X6_count : ∀ q ∈ k_X6_count, rz_row yX6_count.cls cX6_count 2 (some .int) false s_X6_count q.1 q.2 := rz_rows (by decide +kernel)
theorem m_X6_count : rz_MW yX6_count cX6_count 2 (some .int) 1 := ⟨bw_t 588 (by decide +kernel) rfl, bw_t 1 (by decide +kernel) rfl, by decide +kernel, by decide +kernel, by decide +kernel⟩
theorem i_X6_count : Cond.instanceMethod yX6_count ∈ bw := bw_t 586 (by decide +kernel) rfl
theorem v_X6_count : Cond.selects yX6_count.cls yX6_count yX6_count ∈ bw := bw_t 587 (by decide +kernel) rfl
def k_X6_in : List (Nat × rz_I) := [(0, .aload_n 0, 1, 0, 0, 0, 0), (1, .getfield 40, 4, 0, 0, 0, 0), (4, .iload_n 1, 5, 1, 0, 0, 0), (5, .invokevirtual 150, 8, 0, 0, 0, 0), (8, .ifCond .eq 14, 11, 22, 0, 0, 0), (11, .aload_n 0, 12, 0, 0, 0, 0), (12, .getfield 40, 15, 0, 0, 0, 0), (15, .iload_n 1, 16, 1, 0, 0, 0), (16, .invokevirtual 153, 19, 0, 0, 0, 0), (19, .ifCond .eq 5, 22, 24, 0, 0, 0), (22, .iconst 0, 23, 0, 0, 0, 0), (23, .ireturn, 24, 0, 0, 0, 0), (24, .aload_n 0, 25, 0, 0, 0, 0), (25, .getfield 40, 28, 0, 0, 0, 0), (28, .getfield 156, 31, 0, 0, 0, 0), (31, .iload_n 1, 32, 1, 0, 0, 0), (32, .aload_n 0, 33, 0, 0, 0, 0), (33, .getfield 51, 36, 0, 0, 0, 0), (36, .iastore, 37, 0, 0, 0, 0), (37, .iconst 1, 38, 0, 0, 1, 0), (38, .ireturn, 39, 0, 0, 0, 0)]
def s_X6_in : List (Int32 × Nat) := []
theorem r_X6_in : ∀ q ∈ k_X6_in, rz_row yX6_in.cls cX6_in 2 (some .boolean) true s_X6_in q.1 q.2 := rz_rows (by decide +kernel)
theorem m_X6_in : rz_MW yX6_in cX6_in 2 (some .boolean) 1 := ⟨bw_t 525 (by decide +kernel) rfl, bw_t 1 (by decide +kernel) rfl, by decide +kernel, by decide +kernel, by decide +kernel⟩
theorem i_X6_in : Cond.instanceMethod yX6_in ∈ bw := bw_t 523 (by decide +kernel) rfl
theorem v_X6_in : Cond.selects yX6_in.cls yX6_in yX6_in ∈ bw := bw_t 524 (by decide +kernel) rfl
def k_X6_isEdge : List (Nat × rz_I) := [(0, .iload_n 0, 1, 0, 0, 0, 0), (1, .bipush (-50), 3, 0, 0, (-50), 0), (3, .bipush 50, 5, 0, 0, 50, 0), (5, .invokestatic 59, 8, 0, 0, 0, 0), (8, .ifCond .eq 18, 11, 26, 0, 0, 0), (11, .iload_n 1, 12, 1, 0, 0, 0), (12, .bipush (-50), 14, 0, 0, (-50), 0), (14, .bipush 50, 16, 0, 0, 50, 0), (16, .invokestatic 59, 19, 0, 0, 0, 0), (19, .ifCond .eq 7, 22, 26, 0, 0, 0), (22, .iconst 1, 23, 0, 0, 1, 0), (23, .goto 4, 26, 27, 0, 0, 0), (26, .iconst 0, 27, 0, 0, 0, 0), (27, .ireturn, 28, 0, 0, 0, 0)]
def s_X6_isEdge : List (Int32 × Nat) := []
theorem r_X6_isEdge : ∀ q ∈ k_X6_isEdge, rz_row yX6_isEdge.cls cX6_isEdge 2 (some .boolean) true s_X6_isEdge q.1 q.2 := rz_rows (by decide +kernel)
theorem m_X6_isEdge : rz_MW yX6_isEdge cX6_isEdge 2 (some .boolean) 2 := ⟨bw_t 350 (by decide +kernel) rfl, bw_t 1 (by decide +kernel) rfl, by decide +kernel, by decide +kernel, by decide +kernel⟩
theorem t_X6_isEdge : Cond.static yX6_isEdge ∈ bw := bw_t 349 (by decide +kernel) rfl
def k_X6_isHour : List (Nat × rz_I) := [(0, .iload_n 0, 1, 0, 0, 0, 0), (1, .iconst 0, 2, 0, 0, 0, 0), (2, .sipush 333, 5, 0, 0, 333, 0), (5, .invokestatic 59, 8, 0, 0, 0, 0), (8, .ireturn, 9, 0, 0, 0, 0)]
def s_X6_isHour : List (Int32 × Nat) := []
theorem r_X6_isHour : ∀ q ∈ k_X6_isHour, rz_row yX6_isHour.cls cX6_isHour 1 (some .boolean) true s_X6_isHour q.1 q.2 := rz_rows (by decide +kernel)
theorem m_X6_isHour : rz_MW yX6_isHour cX6_isHour 1 (some .boolean) 1 := ⟨bw_t 295 (by decide +kernel) rfl, bw_t 1 (by decide +kernel) rfl, by decide +kernel, by decide +kernel, by decide +kernel⟩
theorem t_X6_isHour : Cond.static yX6_isHour ∈ bw := bw_t 294 (by decide +kernel) rfl
def k_X6_isMinute : List (Nat × rz_I) := [(0, .iload_n 0, 1, 0, 0, 0, 0), (1, .iconst 0, 2, 0, 0, 0, 0), (2, .sipush 20000, 5, 0, 0, 20000, 0), (5, .invokestatic 59, 8, 0, 0, 0, 0), (8, .ireturn, 9, 0, 0, 0, 0)]
def s_X6_isMinute : List (Int32 × Nat) := []
theorem r_X6_isMinute : ∀ q ∈ k_X6_isMinute, rz_row yX6_isMinute.cls cX6_isMinute 1 (some .boolean) true s_X6_isMinute q.1 q.2 := rz_rows (by decide +kernel)
theorem m_X6_isMinute : rz_MW yX6_isMinute cX6_isMinute 1 (some .boolean) 1 := ⟨bw_t 504 (by decide +kernel) rfl, bw_t 1 (by decide +kernel) rfl, by decide +kernel, by decide +kernel, by decide +kernel⟩
theorem t_X6_isMinute : Cond.static yX6_isMinute ∈ bw := bw_t 503 (by decide +kernel) rfl
def k_X6_isPlace : List (Nat × rz_I) := [(0, .iload_n 0, 1, 0, 0, 0, 0), (1, .iconst 0, 2, 0, 0, 0, 0), (2, .sipush 2000, 5, 0, 0, 2000, 0), (5, .invokestatic 59, 8, 0, 0, 0, 0), (8, .ifCond .eq 18, 11, 26, 0, 0, 0), (11, .iload_n 1, 12, 1, 0, 0, 0), (12, .iconst 0, 13, 0, 0, 0, 0), (13, .sipush 2000, 16, 0, 0, 2000, 0), (16, .invokestatic 59, 19, 0, 0, 0, 0), (19, .ifCond .eq 7, 22, 26, 0, 0, 0), (22, .iconst 1, 23, 0, 0, 1, 0), (23, .goto 4, 26, 27, 0, 0, 0), (26, .iconst 0, 27, 0, 0, 0, 0), (27, .ireturn, 28, 0, 0, 0, 0)]
def s_X6_isPlace : List (Int32 × Nat) := []
theorem r_X6_isPlace : ∀ q ∈ k_X6_isPlace, rz_row yX6_isPlace.cls cX6_isPlace 2 (some .boolean) true s_X6_isPlace q.1 q.2 := rz_rows (by decide +kernel)
theorem m_X6_isPlace : rz_MW yX6_isPlace cX6_isPlace 2 (some .boolean) 2 := ⟨bw_t 273 (by decide +kernel) rfl, bw_t 1 (by decide +kernel) rfl, by decide +kernel, by decide +kernel, by decide +kernel⟩
theorem t_X6_isPlace : Cond.static yX6_isPlace ∈ bw := bw_t 272 (by decide +kernel) rfl
def k_X6_isWithin : List (Nat × rz_I) := [(0, .iload_n 0, 1, 0, 0, 0, 0), (1, .iload_n 1, 2, 1, 0, 0, 0), (2, .if_icmp .lt 12, 5, 14, 0, 0, 0), (5, .iload_n 0, 6, 0, 0, 0, 0), (6, .iload_n 2, 7, 2, 0, 0, 0), (7, .if_icmp .gt 7, 10, 14, 0, 0, 0), (10, .iconst 1, 11, 0, 0, 1, 0), (11, .goto 4, 14, 15, 0, 0, 0), (14, .iconst 0, 15, 0, 0, 0, 0), (15, .ireturn, 16, 0, 0, 0, 0)]
def s_X6_isWithin : List (Int32 × Nat) := []
theorem r_X6_isWithin : ∀ q ∈ k_X6_isWithin, rz_row yX6_isWithin.cls cX6_isWithin 3 (some .boolean) true s_X6_isWithin q.1 q.2 := rz_rows (by decide +kernel)
theorem m_X6_isWithin : rz_MW yX6_isWithin cX6_isWithin 3 (some .boolean) 3 := ⟨bw_t 276 (by decide +kernel) rfl, bw_t 1 (by decide +kernel) rfl, by decide +kernel, by decide +kernel, by decide +kernel⟩
theorem t_X6_isWithin : Cond.static yX6_isWithin ∈ bw := bw_t 275 (by decide +kernel) rfl
def k_X6_log : List (Nat × rz_I) := [(0, .aload_n 0, 1, 0, 0, 0, 0), (1, .getfield 47, 4, 0, 0, 0, 0), (4, .iload_n 1, 5, 1, 0, 0, 0), (5, .iload_n 2, 6, 2, 0, 0, 0), (6, .invokevirtual 169, 9, 0, 0, 0, 0), (9, .ireturn, 10, 0, 0, 0, 0)]
def s_X6_log : List (Int32 × Nat) := []
theorem r_X6_log : ∀ q ∈ k_X6_log, rz_row yX6_log.cls cX6_log 3 (some .int) false s_X6_log q.1 q.2 := rz_rows (by decide +kernel)
theorem m_X6_log : rz_MW yX6_log cX6_log 3 (some .int) 2 := ⟨bw_t 576 (by decide +kernel) rfl, bw_t 1 (by decide +kernel) rfl, by decide +kernel, by decide +kernel, by decide +kernel⟩
theorem i_X6_log : Cond.instanceMethod yX6_log ∈ bw := bw_t 574 (by decide +kernel) rfl
theorem v_X6_log : Cond.selects yX6_log.cls yX6_log yX6_log ∈ bw := bw_t 575 (by decide +kernel) rfl
def k_X6_manned : List (Nat × rz_I) := [(0, .iload_n 1, 1, 1, 0, 0, 0), (1, .invokestatic 71, 4, 0, 0, 0, 0), (4, .ifCond .eq 14, 7, 18, 0, 0, 0), (7, .aload_n 0, 8, 0, 0, 0, 0), (8, .getfield 10, 11, 0, 0, 0, 0), (11, .iload_n 1, 12, 1, 0, 0, 0), (12, .invokevirtual 86, 15, 0, 0, 0, 0), (15, .goto 4, 18, 19, 0, 0, 0), (18, .iconst (-1), 19, 0, 0, (-1), 0), (19, .ireturn, 20, 0, 0, 0, 0)]
def s_X6_manned : List (Int32 × Nat) := []
theorem r_X6_manned : ∀ q ∈ k_X6_manned, rz_row yX6_manned.cls cX6_manned 2 (some .int) false s_X6_manned q.1 q.2 := rz_rows (by decide +kernel)
theorem m_X6_manned : rz_MW yX6_manned cX6_manned 2 (some .int) 1 := ⟨bw_t 312 (by decide +kernel) rfl, bw_t 1 (by decide +kernel) rfl, by decide +kernel, by decide +kernel, by decide +kernel⟩
theorem i_X6_manned : Cond.instanceMethod yX6_manned ∈ bw := bw_t 310 (by decide +kernel) rfl
theorem v_X6_manned : Cond.selects yX6_manned.cls yX6_manned yX6_manned ∈ bw := bw_t 311 (by decide +kernel) rfl
def k_X6_meet : List (Nat × rz_I) := [(0, .aload_n 0, 1, 0, 0, 0, 0), (1, .getfield 19, 4, 0, 0, 0, 0), (4, .iload_n 1, 5, 1, 0, 0, 0), (5, .invokevirtual 190, 8, 0, 0, 0, 0), (8, .ifCond .eq 26, 11, 34, 0, 0, 0), (11, .aload_n 0, 12, 0, 0, 0, 0), (12, .getfield 19, 15, 0, 0, 0, 0), (15, .iload_n 2, 16, 2, 0, 0, 0), (16, .invokevirtual 190, 19, 0, 0, 0, 0), (19, .ifCond .eq 15, 22, 34, 0, 0, 0), (22, .aload_n 0, 23, 0, 0, 0, 0), (23, .getfield 19, 26, 0, 0, 0, 0), (26, .iload_n 1, 27, 1, 0, 0, 0), (27, .iload_n 2, 28, 2, 0, 0, 0), (28, .invokevirtual 193, 31, 0, 0, 0, 0), (31, .ifCond .ne 5, 34, 36, 0, 0, 0), (34, .iconst (-1), 35, 0, 0, (-1), 0), (35, .ireturn, 36, 0, 0, 0, 0), (36, .aload_n 0, 37, 0, 0, 0, 0), (37, .getfield 19, 40, 0, 0, 0, 0), (40, .iload_n 1, 41, 1, 0, 0, 0), (41, .iconst 0, 42, 0, 0, 0, 0), (42, .aload_n 0, 43, 0, 0, 0, 0), (43, .getfield 26, 46, 0, 0, 0, 0), (46, .invokevirtual 196, 49, 0, 0, 0, 0), (49, .aload_n 0, 50, 0, 0, 0, 0), (50, .getfield 19, 53, 0, 0, 0, 0), (53, .iload_n 2, 54, 2, 0, 0, 0), (54, .iconst 2, 55, 0, 0, 2, 0), (55, .aload_n 0, 56, 0, 0, 0, 0), (56, .getfield 26, 59, 0, 0, 0, 0), (59, .invokevirtual 196, 62, 0, 0, 0, 0), (62, .aload_n 0, 63, 0, 0, 0, 0), (63, .getfield 26, 66, 0, 0, 0, 0), (66, .invokevirtual 200, 69, 0, 0, 0, 0), (69, .aload_n 0, 70, 0, 0, 0, 0), (70, .getfield 26, 73, 0, 0, 0, 0), (73, .invokevirtual 203, 76, 0, 0, 0, 0), (76, .ireturn, 77, 0, 0, 0, 0)]
def s_X6_meet : List (Int32 × Nat) := []
theorem r_X6_meet : ∀ q ∈ k_X6_meet, rz_row yX6_meet.cls cX6_meet 3 (some .int) false s_X6_meet q.1 q.2 := rz_rows (by decide +kernel)
theorem m_X6_meet : rz_MW yX6_meet cX6_meet 3 (some .int) 2 := ⟨bw_t 366 (by decide +kernel) rfl, bw_t 1 (by decide +kernel) rfl, by decide +kernel, by decide +kernel, by decide +kernel⟩
theorem i_X6_meet : Cond.instanceMethod yX6_meet ∈ bw := bw_t 365 (by decide +kernel) rfl
theorem v_X6_meet : Cond.selects yX6_meet.cls yX6_meet yX6_meet ∈ bw := bw_p 11 (by decide +kernel) rfl
def k_X6_open : List (Nat × rz_I) := [(0, .iload_n 1, 1, 1, 0, 0, 0), (1, .invokestatic 71, 4, 0, 0, 0, 0), (4, .ifCond .eq 14, 7, 18, 0, 0, 0), (7, .aload_n 0, 8, 0, 0, 0, 0), (8, .getfield 10, 11, 0, 0, 0, 0), (11, .iload_n 1, 12, 1, 0, 0, 0), (12, .invokevirtual 90, 15, 0, 0, 0, 0), (15, .goto 4, 18, 19, 0, 0, 0), (18, .iconst (-1), 19, 0, 0, (-1), 0), (19, .ireturn, 20, 0, 0, 0, 0)]
def s_X6_open : List (Int32 × Nat) := []
theorem r_X6_open : ∀ q ∈ k_X6_open, rz_row yX6_open.cls cX6_open 2 (some .int) false s_X6_open q.1 q.2 := rz_rows (by decide +kernel)
theorem m_X6_open : rz_MW yX6_open cX6_open 2 (some .int) 1 := ⟨bw_t 339 (by decide +kernel) rfl, bw_t 1 (by decide +kernel) rfl, by decide +kernel, by decide +kernel, by decide +kernel⟩
theorem i_X6_open : Cond.instanceMethod yX6_open ∈ bw := bw_t 337 (by decide +kernel) rfl
theorem v_X6_open : Cond.selects yX6_open.cls yX6_open yX6_open ∈ bw := bw_t 338 (by decide +kernel) rfl
def k_X6_plan : List (Nat × rz_I) := [(0, .iload_n 2, 1, 2, 0, 0, 0), (1, .invokestatic 140, 4, 0, 0, 0, 0), (4, .ifCond .eq 26, 7, 30, 0, 0, 0), (7, .iload_n 3, 8, 3, 0, 0, 0), (8, .iload_n 2, 9, 2, 0, 0, 0), (9, .sipush 20000, 12, 0, 0, 20000, 0), (12, .invokestatic 59, 15, 0, 0, 0, 0), (15, .ifCond .eq 15, 18, 30, 0, 0, 0), (18, .iload 4, 20, 4, 0, 0, 0), (20, .iconst 0, 21, 0, 0, 0, 0), (21, .sipush 600, 24, 0, 0, 600, 0), (24, .invokestatic 59, 27, 0, 0, 0, 0), (27, .ifCond .ne 5, 30, 32, 0, 0, 0), (30, .iconst (-1), 31, 0, 0, (-1), 0), (31, .ireturn, 32, 0, 0, 0, 0), (32, .aload_n 0, 33, 0, 0, 0, 0), (33, .getfield 40, 36, 0, 0, 0, 0), (36, .iload_n 1, 37, 1, 0, 0, 0), (37, .invokevirtual 143, 40, 0, 0, 0, 0), (40, .ifCond .ne 5, 43, 45, 0, 0, 0), (43, .iconst (-1), 44, 0, 0, (-1), 0), (44, .ireturn, 45, 0, 0, 0, 0), (45, .aload_n 0, 46, 0, 0, 0, 0), (46, .getfield 40, 49, 0, 0, 0, 0), (49, .iload_n 1, 50, 1, 0, 0, 0), (50, .iload_n 2, 51, 2, 0, 0, 0), (51, .iload_n 3, 52, 3, 0, 0, 0), (52, .iload 4, 54, 4, 0, 0, 0), (54, .iadd, 55, 0, 0, 0, 0), (55, .aload_n 0, 56, 0, 0, 0, 0), (56, .getfield 51, 59, 0, 0, 0, 0), (59, .invokevirtual 146, 62, 0, 0, 0, 0), (62, .iload_n 1, 63, 1, 0, 0, 0), (63, .ireturn, 64, 0, 0, 0, 0)]
def s_X6_plan : List (Int32 × Nat) := []
theorem r_X6_plan : ∀ q ∈ k_X6_plan, rz_row yX6_plan.cls cX6_plan 5 (some .int) false s_X6_plan q.1 q.2 := rz_rows (by decide +kernel)
theorem m_X6_plan : rz_MW yX6_plan cX6_plan 5 (some .int) 4 := ⟨bw_t 501 (by decide +kernel) rfl, bw_t 1 (by decide +kernel) rfl, by decide +kernel, by decide +kernel, by decide +kernel⟩
theorem i_X6_plan : Cond.instanceMethod yX6_plan ∈ bw := bw_t 499 (by decide +kernel) rfl
theorem v_X6_plan : Cond.selects yX6_plan.cls yX6_plan yX6_plan ∈ bw := bw_t 500 (by decide +kernel) rfl
def k_X6_plot : List (Nat × rz_I) := [(0, .aload_n 0, 1, 0, 0, 0, 0), (1, .iload_n 1, 2, 1, 0, 0, 0), (2, .iload_n 2, 3, 2, 0, 0, 0), (3, .invokevirtual 109, 6, 0, 0, 0, 0), (6, .ireturn, 7, 0, 0, 0, 0)]
def s_X6_plot : List (Int32 × Nat) := []
theorem r_X6_plot : ∀ q ∈ k_X6_plot, rz_row yX6_plot.cls cX6_plot 3 (some .int) false s_X6_plot q.1 q.2 := rz_rows (by decide +kernel)
theorem m_X6_plot : rz_MW yX6_plot cX6_plot 3 (some .int) 2 := ⟨bw_t 362 (by decide +kernel) rfl, bw_t 1 (by decide +kernel) rfl, by decide +kernel, by decide +kernel, by decide +kernel⟩
theorem i_X6_plot : Cond.instanceMethod yX6_plot ∈ bw := bw_t 360 (by decide +kernel) rfl
theorem v_X6_plot : Cond.selects yX6_plot.cls yX6_plot yX6_plot ∈ bw := bw_t 361 (by decide +kernel) rfl
def k_X6_plotted : List (Nat × rz_I) := [(0, .aload_n 0, 1, 0, 0, 0, 0), (1, .iload_n 1, 2, 1, 0, 0, 0), (2, .iload_n 2, 3, 2, 0, 0, 0), (3, .invokevirtual 109, 6, 0, 0, 0, 0), (6, .iconst 1, 7, 0, 0, 1, 0), (7, .if_icmp .ne 15, 10, 22, 0, 0, 0), (10, .aload_n 0, 11, 0, 0, 0, 0), (11, .getfield 33, 14, 0, 0, 0, 0), (14, .iload_n 1, 15, 1, 0, 0, 0), (15, .iload_n 2, 16, 2, 0, 0, 0), (16, .invokevirtual 125, 19, 0, 0, 0, 0), (19, .ifCond .ne 5, 22, 24, 0, 0, 0), (22, .iconst (-1), 23, 0, 0, (-1), 0), (23, .ireturn, 24, 0, 0, 0, 0), (24, .aload_n 0, 25, 0, 0, 0, 0), (25, .getfield 33, 28, 0, 0, 0, 0), (28, .iload_n 1, 29, 1, 0, 0, 0), (29, .iload_n 2, 30, 2, 0, 0, 0), (30, .aload_n 0, 31, 0, 0, 0, 0), (31, .getfield 19, 34, 0, 0, 0, 0), (34, .getfield 128, 37, 0, 0, 0, 0), (37, .iload_n 1, 38, 1, 0, 0, 0), (38, .iaload, 39, 0, 0, 0, 0), (39, .aload_n 0, 40, 0, 0, 0, 0), (40, .getfield 26, 43, 0, 0, 0, 0), (43, .invokevirtual 131, 46, 0, 0, 0, 0), (46, .ireturn, 47, 0, 0, 0, 0)]
def s_X6_plotted : List (Int32 × Nat) := []
theorem r_X6_plotted : ∀ q ∈ k_X6_plotted, rz_row yX6_plotted.cls cX6_plotted 3 (some .int) false s_X6_plotted q.1 q.2 := rz_rows (by decide +kernel)
theorem m_X6_plotted : rz_MW yX6_plotted cX6_plotted 3 (some .int) 2 := ⟨bw_t 439 (by decide +kernel) rfl, bw_t 1 (by decide +kernel) rfl, by decide +kernel, by decide +kernel, by decide +kernel⟩
theorem i_X6_plotted : Cond.instanceMethod yX6_plotted ∈ bw := bw_t 437 (by decide +kernel) rfl
theorem v_X6_plotted : Cond.selects yX6_plotted.cls yX6_plotted yX6_plotted ∈ bw := bw_t 438 (by decide +kernel) rfl
def k_X6_post : List (Nat × rz_I) := [(0, .iload_n 1, 1, 1, 0, 0, 0), (1, .iload_n 2, 2, 2, 0, 0, 0), (2, .invokestatic 55, 5, 0, 0, 0, 0), (5, .ifCond .eq 14, 8, 19, 0, 0, 0), (8, .iload_n 3, 9, 3, 0, 0, 0), (9, .iconst 1, 10, 0, 0, 1, 0), (10, .sipush 500, 13, 0, 0, 500, 0), (13, .invokestatic 59, 16, 0, 0, 0, 0), (16, .ifCond .ne 5, 19, 21, 0, 0, 0), (19, .iconst (-1), 20, 0, 0, (-1), 0), (20, .ireturn, 21, 0, 0, 0, 0), (21, .aload_n 0, 22, 0, 0, 0, 0), (22, .getfield 10, 25, 0, 0, 0, 0), (25, .iload_n 1, 26, 1, 0, 0, 0), (26, .iload_n 2, 27, 2, 0, 0, 0), (27, .iload_n 3, 28, 3, 0, 0, 0), (28, .invokevirtual 63, 31, 0, 0, 0, 0), (31, .ireturn, 32, 0, 0, 0, 0)]
def s_X6_post : List (Int32 × Nat) := []
theorem r_X6_post : ∀ q ∈ k_X6_post, rz_row yX6_post.cls cX6_post 4 (some .int) false s_X6_post q.1 q.2 := rz_rows (by decide +kernel)
theorem m_X6_post : rz_MW yX6_post cX6_post 4 (some .int) 3 := ⟨bw_t 270 (by decide +kernel) rfl, bw_t 1 (by decide +kernel) rfl, by decide +kernel, by decide +kernel, by decide +kernel⟩
theorem i_X6_post : Cond.instanceMethod yX6_post ∈ bw := bw_t 268 (by decide +kernel) rfl
theorem v_X6_post : Cond.selects yX6_post.cls yX6_post yX6_post ∈ bw := bw_t 269 (by decide +kernel) rfl
def k_X6_reach : List (Nat × rz_I) := [(0, .iload_n 1, 1, 1, 0, 0, 0), (1, .iload_n 2, 2, 2, 0, 0, 0), (2, .invokestatic 55, 5, 0, 0, 0, 0), (5, .ifCond .eq 15, 8, 20, 0, 0, 0), (8, .aload_n 0, 9, 0, 0, 0, 0), (9, .getfield 10, 12, 0, 0, 0, 0), (12, .iload_n 1, 13, 1, 0, 0, 0), (13, .iload_n 2, 14, 2, 0, 0, 0), (14, .invokevirtual 67, 17, 0, 0, 0, 0), (17, .goto 4, 20, 21, 0, 0, 0), (20, .iconst (-1), 21, 0, 0, (-1), 0), (21, .ireturn, 22, 0, 0, 0, 0)]
def s_X6_reach : List (Int32 × Nat) := []
theorem r_X6_reach : ∀ q ∈ k_X6_reach, rz_row yX6_reach.cls cX6_reach 3 (some .int) false s_X6_reach q.1 q.2 := rz_rows (by decide +kernel)
theorem m_X6_reach : rz_MW yX6_reach cX6_reach 3 (some .int) 2 := ⟨bw_t 284 (by decide +kernel) rfl, bw_t 1 (by decide +kernel) rfl, by decide +kernel, by decide +kernel, by decide +kernel⟩
theorem i_X6_reach : Cond.instanceMethod yX6_reach ∈ bw := bw_t 282 (by decide +kernel) rfl
theorem v_X6_reach : Cond.selects yX6_reach.cls yX6_reach yX6_reach ∈ bw := bw_t 283 (by decide +kernel) rfl
def k_X6_sees : List (Nat × rz_I) := [(0, .aload_n 0, 1, 0, 0, 0, 0), (1, .getfield 10, 4, 0, 0, 0, 0), (4, .iload_n 1, 5, 1, 0, 0, 0), (5, .invokevirtual 79, 8, 0, 0, 0, 0), (8, .ifCond .eq 19, 11, 27, 0, 0, 0), (11, .iload_n 2, 12, 2, 0, 0, 0), (12, .iload_n 3, 13, 3, 0, 0, 0), (13, .invokestatic 55, 16, 0, 0, 0, 0), (16, .ifCond .eq 11, 19, 27, 0, 0, 0), (19, .iload 4, 21, 4, 0, 0, 0), (21, .invokestatic 71, 24, 0, 0, 0, 0), (24, .ifCond .ne 5, 27, 29, 0, 0, 0), (27, .iconst (-1), 28, 0, 0, (-1), 0), (28, .ireturn, 29, 0, 0, 0, 0), (29, .aload_n 0, 30, 0, 0, 0, 0), (30, .getfield 10, 33, 0, 0, 0, 0), (33, .iload_n 1, 34, 1, 0, 0, 0), (34, .iload_n 2, 35, 2, 0, 0, 0), (35, .iload_n 3, 36, 3, 0, 0, 0), (36, .iload 4, 38, 4, 0, 0, 0), (38, .invokevirtual 82, 41, 0, 0, 0, 0), (41, .ifCond .eq 7, 44, 48, 0, 0, 0), (44, .iconst 1, 45, 0, 0, 1, 0), (45, .goto 4, 48, 49, 0, 0, 0), (48, .iconst 0, 49, 0, 0, 0, 0), (49, .ireturn, 50, 0, 0, 0, 0)]
def s_X6_sees : List (Int32 × Nat) := []
theorem r_X6_sees : ∀ q ∈ k_X6_sees, rz_row yX6_sees.cls cX6_sees 5 (some .int) false s_X6_sees q.1 q.2 := rz_rows (by decide +kernel)
theorem m_X6_sees : rz_MW yX6_sees cX6_sees 5 (some .int) 4 := ⟨bw_t 299 (by decide +kernel) rfl, bw_t 1 (by decide +kernel) rfl, by decide +kernel, by decide +kernel, by decide +kernel⟩
theorem i_X6_sees : Cond.instanceMethod yX6_sees ∈ bw := bw_t 297 (by decide +kernel) rfl
theorem v_X6_sees : Cond.selects yX6_sees.cls yX6_sees yX6_sees ∈ bw := bw_t 298 (by decide +kernel) rfl
def k_X6_sight : List (Nat × rz_I) := [(0, .aload_n 0, 1, 0, 0, 0, 0), (1, .getfield 10, 4, 0, 0, 0, 0), (4, .iload_n 1, 5, 1, 0, 0, 0), (5, .invokevirtual 79, 8, 0, 0, 0, 0), (8, .ifCond .eq 21, 11, 29, 0, 0, 0), (11, .iload_n 2, 12, 2, 0, 0, 0), (12, .iload_n 3, 13, 3, 0, 0, 0), (13, .invokestatic 93, 16, 0, 0, 0, 0), (16, .ifCond .eq 13, 19, 29, 0, 0, 0), (19, .iload 4, 21, 4, 0, 0, 0), (21, .iload 5, 23, 5, 0, 0, 0), (23, .invokestatic 93, 26, 0, 0, 0, 0), (26, .ifCond .ne 5, 29, 31, 0, 0, 0), (29, .iconst (-1), 30, 0, 0, (-1), 0), (30, .ireturn, 31, 0, 0, 0, 0), (31, .iload_n 2, 32, 2, 0, 0, 0), (32, .iload 5, 34, 5, 0, 0, 0), (34, .imul, 35, 0, 0, 0, 0), (35, .iload_n 3, 36, 3, 0, 0, 0), (36, .iload 4, 38, 4, 0, 0, 0), (38, .imul, 39, 0, 0, 0, 0), (39, .isub, 40, 0, 0, 0, 0), (40, .ifCond .gt 5, 43, 45, 0, 0, 0), (43, .iconst (-1), 44, 0, 0, (-1), 0), (44, .ireturn, 45, 0, 0, 0, 0), (45, .aload_n 0, 46, 0, 0, 0, 0), (46, .getfield 19, 49, 0, 0, 0, 0), (49, .aload_n 0, 50, 0, 0, 0, 0), (50, .getfield 10, 53, 0, 0, 0, 0), (53, .getfield 96, 56, 0, 0, 0, 0), (56, .iload_n 1, 57, 1, 0, 0, 0), (57, .iaload, 58, 0, 0, 0, 0), (58, .aload_n 0, 59, 0, 0, 0, 0), (59, .getfield 10, 62, 0, 0, 0, 0), (62, .getfield 99, 65, 0, 0, 0, 0), (65, .iload_n 1, 66, 1, 0, 0, 0), (66, .iaload, 67, 0, 0, 0, 0), (67, .aload_n 0, 68, 0, 0, 0, 0), (68, .getfield 51, 71, 0, 0, 0, 0), (71, .invokevirtual 102, 74, 0, 0, 0, 0), (74, .istore 6, 76, 6, 0, 0, 0), (76, .iload 6, 78, 6, 0, 0, 0), (78, .iconst (-1), 79, 0, 0, (-1), 0), (79, .if_icmp .eq 18, 82, 97, 0, 0, 0), (82, .aload_n 0, 83, 0, 0, 0, 0), (83, .getfield 19, 86, 0, 0, 0, 0), (86, .iload 6, 88, 6, 0, 0, 0), (88, .iload_n 2, 89, 2, 0, 0, 0), (89, .iload_n 3, 90, 3, 0, 0, 0), (90, .iload 4, 92, 4, 0, 0, 0), (92, .iload 5, 94, 5, 0, 0, 0), (94, .invokevirtual 105, 97, 0, 0, 0, 0), (97, .iload 6, 99, 6, 0, 0, 0), (99, .ireturn, 100, 0, 0, 0, 0)]
def s_X6_sight : List (Int32 × Nat) := []
theorem r_X6_sight : ∀ q ∈ k_X6_sight, rz_row yX6_sight.cls cX6_sight 7 (some .int) false s_X6_sight q.1 q.2 := rz_rows (by decide +kernel)
theorem m_X6_sight : rz_MW yX6_sight cX6_sight 7 (some .int) 5 := ⟨bw_t 347 (by decide +kernel) rfl, bw_t 1 (by decide +kernel) rfl, by decide +kernel, by decide +kernel, by decide +kernel⟩
theorem i_X6_sight : Cond.instanceMethod yX6_sight ∈ bw := bw_t 345 (by decide +kernel) rfl
theorem v_X6_sight : Cond.selects yX6_sight.cls yX6_sight yX6_sight ∈ bw := bw_t 346 (by decide +kernel) rfl
def k_X6_speed : List (Nat × rz_I) := [(0, .iload_n 1, 1, 1, 0, 0, 0), (1, .iconst 1, 2, 0, 0, 1, 0), (2, .bipush 100, 4, 0, 0, 100, 0), (4, .invokestatic 59, 7, 0, 0, 0, 0), (7, .ifCond .ne 5, 10, 12, 0, 0, 0), (10, .iconst 0, 11, 0, 0, 0, 0), (11, .ireturn, 12, 0, 0, 0, 0), (12, .aload_n 0, 13, 0, 0, 0, 0), (13, .getfield 33, 16, 0, 0, 0, 0), (16, .iload_n 1, 17, 1, 0, 0, 0), (17, .putfield 134, 20, 0, 0, 0, 0), (20, .iconst 1, 21, 0, 0, 1, 0), (21, .ireturn, 22, 0, 0, 0, 0)]
def s_X6_speed : List (Int32 × Nat) := []
theorem r_X6_speed : ∀ q ∈ k_X6_speed, rz_row yX6_speed.cls cX6_speed 2 (some .boolean) true s_X6_speed q.1 q.2 := rz_rows (by decide +kernel)
theorem m_X6_speed : rz_MW yX6_speed cX6_speed 2 (some .boolean) 1 := ⟨bw_t 488 (by decide +kernel) rfl, bw_t 1 (by decide +kernel) rfl, by decide +kernel, by decide +kernel, by decide +kernel⟩
theorem i_X6_speed : Cond.instanceMethod yX6_speed ∈ bw := bw_t 486 (by decide +kernel) rfl
theorem v_X6_speed : Cond.selects yX6_speed.cls yX6_speed yX6_speed ∈ bw := bw_t 487 (by decide +kernel) rfl
def k_X6_step : List (Nat × rz_I) := [(0, .iload_n 1, 1, 1, 0, 0, 0), (1, .iconst 0, 2, 0, 0, 0, 0), (2, .sipush 3000, 5, 0, 0, 3000, 0), (5, .invokestatic 59, 8, 0, 0, 0, 0), (8, .ifCond .eq 15, 11, 23, 0, 0, 0), (11, .aload_n 0, 12, 0, 0, 0, 0), (12, .getfield 51, 15, 0, 0, 0, 0), (15, .iload_n 1, 16, 1, 0, 0, 0), (16, .iadd, 17, 0, 0, 0, 0), (17, .sipush 20000, 20, 0, 0, 20000, 0), (20, .if_icmp .le 5, 23, 25, 0, 0, 0), (23, .iconst (-1), 24, 0, 0, (-1), 0), (24, .ireturn, 25, 0, 0, 0, 0), (25, .aload_n 0, 26, 0, 0, 0, 0), (26, .getfield 47, 29, 0, 0, 0, 0), (29, .aload_n 0, 30, 0, 0, 0, 0), (30, .getfield 51, 33, 0, 0, 0, 0), (33, .aload_n 0, 34, 0, 0, 0, 0), (34, .getfield 51, 37, 0, 0, 0, 0), (37, .iload_n 1, 38, 1, 0, 0, 0), (38, .iadd, 39, 0, 0, 0, 0), (39, .aload_n 0, 40, 0, 0, 0, 0), (40, .getfield 40, 43, 0, 0, 0, 0), (43, .invokevirtual 165, 46, 0, 0, 0, 0), (46, .aload_n 0, 47, 0, 0, 0, 0), (47, .dup, 48, 0, 0, 0, 0), (48, .getfield 51, 51, 0, 0, 0, 0), (51, .iload_n 1, 52, 1, 0, 0, 0), (52, .iadd, 53, 0, 0, 0, 0), (53, .putfield 51, 56, 0, 0, 0, 0), (56, .aload_n 0, 57, 0, 0, 0, 0), (57, .getfield 51, 60, 0, 0, 0, 0), (60, .ireturn, 61, 0, 0, 0, 0)]
def s_X6_step : List (Int32 × Nat) := []
theorem r_X6_step : ∀ q ∈ k_X6_step, rz_row yX6_step.cls cX6_step 2 (some .int) false s_X6_step q.1 q.2 := rz_rows (by decide +kernel)
theorem m_X6_step : rz_MW yX6_step cX6_step 2 (some .int) 1 := ⟨bw_t 547 (by decide +kernel) rfl, bw_t 1 (by decide +kernel) rfl, by decide +kernel, by decide +kernel, by decide +kernel⟩
theorem i_X6_step : Cond.instanceMethod yX6_step ∈ bw := bw_t 545 (by decide +kernel) rfl
theorem v_X6_step : Cond.selects yX6_step.cls yX6_step yX6_step ∈ bw := bw_t 546 (by decide +kernel) rfl
def k_X6_track : List (Nat × rz_I) := [(0, .aload_n 0, 1, 0, 0, 0, 0), (1, .getfield 33, 4, 0, 0, 0, 0), (4, .iload_n 1, 5, 1, 0, 0, 0), (5, .iload_n 2, 6, 2, 0, 0, 0), (6, .invokevirtual 137, 9, 0, 0, 0, 0), (9, .ireturn, 10, 0, 0, 0, 0)]
def s_X6_track : List (Int32 × Nat) := []
theorem r_X6_track : ∀ q ∈ k_X6_track, rz_row yX6_track.cls cX6_track 3 (some .int) false s_X6_track q.1 q.2 := rz_rows (by decide +kernel)
theorem m_X6_track : rz_MW yX6_track cX6_track 3 (some .int) 2 := ⟨bw_t 492 (by decide +kernel) rfl, bw_t 1 (by decide +kernel) rfl, by decide +kernel, by decide +kernel, by decide +kernel⟩
theorem i_X6_track : Cond.instanceMethod yX6_track ∈ bw := bw_t 490 (by decide +kernel) rfl
theorem v_X6_track : Cond.selects yX6_track.cls yX6_track yX6_track ∈ bw := bw_t 491 (by decide +kernel) rfl
def k_X6_weather : List (Nat × rz_I) := [(0, .iload_n 1, 1, 1, 0, 0, 0), (1, .invokestatic 71, 4, 0, 0, 0, 0), (4, .ifCond .eq 14, 7, 18, 0, 0, 0), (7, .iload_n 2, 8, 2, 0, 0, 0), (8, .iconst 0, 9, 0, 0, 0, 0), (9, .sipush 2000, 12, 0, 0, 2000, 0), (12, .invokestatic 59, 15, 0, 0, 0, 0), (15, .ifCond .ne 5, 18, 20, 0, 0, 0), (18, .iconst 0, 19, 0, 0, 0, 0), (19, .ireturn, 20, 0, 0, 0, 0), (20, .aload_n 0, 21, 0, 0, 0, 0), (21, .getfield 10, 24, 0, 0, 0, 0), (24, .getfield 75, 27, 0, 0, 0, 0), (27, .iload_n 1, 28, 1, 0, 0, 0), (28, .iload_n 2, 29, 2, 0, 0, 0), (29, .iastore, 30, 0, 0, 0, 0), (30, .iconst 1, 31, 0, 0, 1, 0), (31, .ireturn, 32, 0, 0, 0, 0)]
def s_X6_weather : List (Int32 × Nat) := []
theorem r_X6_weather : ∀ q ∈ k_X6_weather, rz_row yX6_weather.cls cX6_weather 3 (some .boolean) true s_X6_weather q.1 q.2 := rz_rows (by decide +kernel)
theorem m_X6_weather : rz_MW yX6_weather cX6_weather 3 (some .boolean) 2 := ⟨bw_t 292 (by decide +kernel) rfl, bw_t 1 (by decide +kernel) rfl, by decide +kernel, by decide +kernel, by decide +kernel⟩
theorem i_X6_weather : Cond.instanceMethod yX6_weather ∈ bw := bw_t 290 (by decide +kernel) rfl
theorem v_X6_weather : Cond.selects yX6_weather.cls yX6_weather yX6_weather ∈ bw := bw_t 291 (by decide +kernel) rfl
end
section
/-! Tables of instructions, words of methods: by program. -/
def k_X7_bits : List (Nat × rz_I) := [(0, .iconst 0, 1, 0, 0, 0, 0), (1, .istore_n 1, 2, 1, 0, 0, 0), (2, .iconst 0, 3, 0, 0, 0, 0), (3, .istore_n 2, 4, 2, 0, 0, 0), (4, .iload_n 2, 5, 2, 0, 0, 0), (5, .bipush 10, 7, 0, 0, 10, 0), (7, .if_icmp .ge 17, 10, 24, 0, 0, 0), (10, .iload_n 1, 11, 1, 0, 0, 0), (11, .iload_n 0, 12, 0, 0, 0, 0), (12, .iload_n 2, 13, 2, 0, 0, 0), (13, .ishr, 14, 0, 0, 0, 0), (14, .iconst 1, 15, 0, 0, 1, 0), (15, .iand, 16, 0, 0, 0, 0), (16, .iadd, 17, 0, 0, 0, 0), (17, .istore_n 1, 18, 1, 0, 0, 0), (18, .iinc 2 1, 21, 2, 0, 1, 0), (21, .goto (-17), 24, 4, 0, 0, 0), (24, .iload_n 1, 25, 1, 0, 0, 0), (25, .ireturn, 26, 0, 0, 0, 0)]
def s_X7_bits : List (Int32 × Nat) := []
theorem r_X7_bits : ∀ q ∈ k_X7_bits, rz_row yX7_bits.cls cX7_bits 3 (some .int) false s_X7_bits q.1 q.2 := rz_rows (by decide +kernel)
theorem m_X7_bits : rz_MW yX7_bits cX7_bits 3 (some .int) 1 := ⟨bw_t 827 (by decide +kernel) rfl, bw_t 9 (by decide +kernel) rfl, by decide +kernel, by decide +kernel, by decide +kernel⟩
theorem t_X7_bits : Cond.static yX7_bits ∈ bw := bw_t 826 (by decide +kernel) rfl
def k_X7_boat : List (Nat × rz_I) := [(0, .aload_n 0, 1, 0, 0, 0, 0), (1, .iconst 0, 2, 0, 0, 0, 0), (2, .putfield 84, 5, 0, 0, 0, 0), (5, .iload_n 1, 6, 1, 0, 0, 0), (6, .iconst 0, 7, 0, 0, 0, 0), (7, .aload_n 0, 8, 0, 0, 0, 0), (8, .getfield 188, 11, 0, 0, 0, 0), (11, .iconst 1, 12, 0, 0, 1, 0), (12, .isub, 13, 0, 0, 0, 0), (13, .invokestatic 87, 16, 0, 0, 0, 0), (16, .ifCond .eq 37, 19, 53, 0, 0, 0), (19, .iload_n 2, 20, 2, 0, 0, 0), (20, .iconst 0, 21, 0, 0, 0, 0), (21, .aload_n 0, 22, 0, 0, 0, 0), (22, .getfield 116, 25, 0, 0, 0, 0), (25, .invokestatic 87, 28, 0, 0, 0, 0), (28, .ifCond .eq 25, 31, 53, 0, 0, 0), (31, .iload_n 3, 32, 3, 0, 0, 0), (32, .iconst 0, 33, 0, 0, 0, 0), (33, .aload_n 0, 34, 0, 0, 0, 0), (34, .getfield 116, 37, 0, 0, 0, 0), (37, .invokestatic 87, 40, 0, 0, 0, 0), (40, .ifCond .eq 13, 43, 53, 0, 0, 0), (43, .aload_n 0, 44, 0, 0, 0, 0), (44, .iload_n 1, 45, 1, 0, 0, 0), (45, .iload_n 2, 46, 2, 0, 0, 0), (46, .iload_n 3, 47, 3, 0, 0, 0), (47, .invokevirtual 202, 50, 0, 0, 0, 0), (50, .goto 4, 53, 54, 0, 0, 0), (53, .iconst (-1), 54, 0, 0, (-1), 0), (54, .ireturn, 55, 0, 0, 0, 0)]
def s_X7_boat : List (Int32 × Nat) := []
theorem r_X7_boat : ∀ q ∈ k_X7_boat, rz_row yX7_boat.cls cX7_boat 4 (some .int) false s_X7_boat q.1 q.2 := rz_rows (by decide +kernel)
theorem m_X7_boat : rz_MW yX7_boat cX7_boat 4 (some .int) 3 := ⟨bw_t 924 (by decide +kernel) rfl, bw_t 9 (by decide +kernel) rfl, by decide +kernel, by decide +kernel, by decide +kernel⟩
theorem i_X7_boat : Cond.instanceMethod yX7_boat ∈ bw := bw_t 922 (by decide +kernel) rfl
theorem v_X7_boat : Cond.selects yX7_boat.cls yX7_boat yX7_boat ∈ bw := bw_t 923 (by decide +kernel) rfl
def k_X7_bounds : List (Nat × rz_I) := [(0, .aload_n 0, 1, 0, 0, 0, 0), (1, .iload_n 1, 2, 1, 0, 0, 0), (2, .iconst 0, 3, 0, 0, 0, 0), (3, .invokevirtual 119, 6, 0, 0, 0, 0), (6, .istore_n 3, 7, 3, 0, 0, 0), (7, .iconst 0, 8, 0, 0, 0, 0), (8, .istore 4, 10, 4, 0, 0, 0), (10, .iload 4, 12, 4, 0, 0, 0), (12, .iconst 2, 13, 0, 0, 2, 0), (13, .if_icmp .ge 124, 16, 137, 0, 0, 0), (16, .aload_n 0, 17, 0, 0, 0, 0), (17, .iload_n 1, 18, 1, 0, 0, 0), (18, .iconst 2, 19, 0, 0, 2, 0), (19, .iconst 2, 20, 0, 0, 2, 0), (20, .iload 4, 22, 4, 0, 0, 0), (22, .imul, 23, 0, 0, 0, 0), (23, .iadd, 24, 0, 0, 0, 0), (24, .invokevirtual 119, 27, 0, 0, 0, 0), (27, .i2l, 28, 0, 0, 0, 0), (28, .lstore 5, 30, 5, 0, 0, 0), (30, .aload_n 0, 31, 0, 0, 0, 0), (31, .iload_n 1, 32, 1, 0, 0, 0), (32, .iconst 3, 33, 0, 0, 3, 0), (33, .iconst 2, 34, 0, 0, 2, 0), (34, .iload 4, 36, 4, 0, 0, 0), (36, .imul, 37, 0, 0, 0, 0), (37, .iadd, 38, 0, 0, 0, 0), (38, .invokevirtual 119, 41, 0, 0, 0, 0), (41, .i2l, 42, 0, 0, 0, 0), (42, .lstore 7, 44, 7, 0, 0, 0), (44, .iload 4, 46, 4, 0, 0, 0), (46, .ifCond .ne 7, 49, 53, 0, 0, 0), (49, .lconst 1, 50, 0, 0, 0, 1), (50, .goto 6, 53, 56, 0, 0, 0), (53, .ldc2_w 122, 56, 0, 856, 0, (-1)), (56, .lstore 9, 58, 9, 0, 0, 0), (58, .aload_n 0, 59, 0, 0, 0, 0), (59, .getfield 62, 62, 0, 0, 0, 0), (62, .iload_n 2, 63, 2, 0, 0, 0), (63, .iload 4, 65, 4, 0, 0, 0), (65, .iadd, 66, 0, 0, 0, 0), (66, .lload 7, 68, 7, 0, 0, 0), (68, .lneg, 69, 0, 0, 0, 0), (69, .lload 9, 71, 9, 0, 0, 0), (71, .lmul, 72, 0, 0, 0, 0), (72, .lastore, 73, 0, 0, 0, 0), (73, .aload_n 0, 74, 0, 0, 0, 0), (74, .getfield 66, 77, 0, 0, 0, 0), (77, .iload_n 2, 78, 2, 0, 0, 0), (78, .iload 4, 80, 4, 0, 0, 0), (80, .iadd, 81, 0, 0, 0, 0), (81, .lload 5, 83, 5, 0, 0, 0), (83, .lload 9, 85, 9, 0, 0, 0), (85, .lmul, 86, 0, 0, 0, 0), (86, .lastore, 87, 0, 0, 0, 0), (87, .aload_n 0, 88, 0, 0, 0, 0), (88, .getfield 69, 91, 0, 0, 0, 0), (91, .iload_n 2, 92, 2, 0, 0, 0), (92, .iload 4, 94, 4, 0, 0, 0), (94, .iadd, 95, 0, 0, 0, 0), (95, .aload_n 0, 96, 0, 0, 0, 0), (96, .getfield 62, 99, 0, 0, 0, 0), (99, .iload_n 2, 100, 2, 0, 0, 0), (100, .iload 4, 102, 4, 0, 0, 0), (102, .iadd, 103, 0, 0, 0, 0), (103, .laload, 104, 0, 0, 0, 0), (104, .aload_n 0, 105, 0, 0, 0, 0), (105, .getfield 9, 108, 0, 0, 0, 0), (108, .iload_n 3, 109, 3, 0, 0, 0), (109, .iaload, 110, 0, 0, 0, 0), (110, .i2l, 111, 0, 0, 0, 0), (111, .lmul, 112, 0, 0, 0, 0), (112, .aload_n 0, 113, 0, 0, 0, 0), (113, .getfield 66, 116, 0, 0, 0, 0), (116, .iload_n 2, 117, 2, 0, 0, 0), (117, .iload 4, 119, 4, 0, 0, 0), (119, .iadd, 120, 0, 0, 0, 0), (120, .laload, 121, 0, 0, 0, 0), (121, .aload_n 0, 122, 0, 0, 0, 0), (122, .getfield 13, 125, 0, 0, 0, 0), (125, .iload_n 3, 126, 3, 0, 0, 0), (126, .iaload, 127, 0, 0, 0, 0), (127, .i2l, 128, 0, 0, 0, 0), (128, .lmul, 129, 0, 0, 0, 0), (129, .ladd, 130, 0, 0, 0, 0), (130, .lastore, 131, 0, 0, 0, 0), (131, .iinc 4 1, 134, 4, 0, 1, 0), (134, .goto (-124), 137, 10, 0, 0, 0), (137, .return_, 138, 0, 0, 0, 0)]
def s_X7_bounds : List (Int32 × Nat) := []
theorem r_X7_bounds : ∀ q ∈ k_X7_bounds, rz_row yX7_bounds.cls cX7_bounds 11 none false s_X7_bounds q.1 q.2 := rz_rows (by decide +kernel)
theorem m_X7_bounds : rz_MW yX7_bounds cX7_bounds 11 none 2 := ⟨bw_t 855 (by decide +kernel) rfl, bw_t 9 (by decide +kernel) rfl, by decide +kernel, by decide +kernel, by decide +kernel⟩
theorem i_X7_bounds : Cond.instanceMethod yX7_bounds ∈ bw := bw_t 854 (by decide +kernel) rfl
theorem v_X7_bounds : Cond.selects yX7_bounds.cls yX7_bounds yX7_bounds ∈ bw := bw_p 54 (by decide +kernel) rfl
def k_X7_box : List (Nat × rz_I) := [(0, .aload_n 0, 1, 0, 0, 0, 0), (1, .aload_n 0, 2, 0, 0, 0, 0), (2, .iload_n 1, 3, 1, 0, 0, 0), (3, .iload_n 2, 4, 2, 0, 0, 0), (4, .invokevirtual 150, 7, 0, 0, 0, 0), (7, .iconst 1, 8, 0, 0, 1, 0), (8, .if_icmp .ne 12, 11, 20, 0, 0, 0), (11, .iload_n 3, 12, 3, 0, 0, 0), (12, .iconst 0, 13, 0, 0, 0, 0), (13, .iconst 3, 14, 0, 0, 3, 0), (14, .invokestatic 87, 17, 0, 0, 0, 0), (17, .ifCond .ne 7, 20, 24, 0, 0, 0), (20, .iconst 1, 21, 0, 0, 1, 0), (21, .goto 4, 24, 25, 0, 0, 0), (24, .iconst 0, 25, 0, 0, 0, 0), (25, .putfield 84, 28, 0, 0, 0, 0), (28, .aload_n 0, 29, 0, 0, 0, 0), (29, .getfield 84, 32, 0, 0, 0, 0), (32, .ifCond .le 5, 35, 37, 0, 0, 0), (35, .iconst 0, 36, 0, 0, 0, 0), (36, .ireturn, 37, 0, 0, 0, 0), (37, .aload_n 0, 38, 0, 0, 0, 0), (38, .iload_n 1, 39, 1, 0, 0, 0), (39, .iload_n 2, 40, 2, 0, 0, 0), (40, .invokevirtual 172, 43, 0, 0, 0, 0), (43, .aload_n 0, 44, 0, 0, 0, 0), (44, .getfield 81, 47, 0, 0, 0, 0), (47, .iload_n 3, 48, 3, 0, 0, 0), (48, .laload, 49, 0, 0, 0, 0), (49, .l2i, 50, 0, 0, 0, 0), (50, .ireturn, 51, 0, 0, 0, 0)]
def s_X7_box : List (Int32 × Nat) := []
theorem r_X7_box : ∀ q ∈ k_X7_box, rz_row yX7_box.cls cX7_box 4 (some .int) false s_X7_box q.1 q.2 := rz_rows (by decide +kernel)
theorem m_X7_box : rz_MW yX7_box cX7_box 4 (some .int) 3 := ⟨bw_t 885 (by decide +kernel) rfl, bw_t 9 (by decide +kernel) rfl, by decide +kernel, by decide +kernel, by decide +kernel⟩
theorem i_X7_box : Cond.instanceMethod yX7_box ∈ bw := bw_t 883 (by decide +kernel) rfl
theorem v_X7_box : Cond.selects yX7_box.cls yX7_box yX7_box ∈ bw := bw_t 884 (by decide +kernel) rfl
def k_X7_boxOf : List (Nat × rz_I) := [(0, .aload_n 0, 1, 0, 0, 0, 0), (1, .iload_n 1, 2, 1, 0, 0, 0), (2, .iload_n 2, 3, 2, 0, 0, 0), (3, .invokevirtual 150, 6, 0, 0, 0, 0), (6, .istore_n 3, 7, 3, 0, 0, 0), (7, .iconst 0, 8, 0, 0, 0, 0), (8, .istore 4, 10, 4, 0, 0, 0), (10, .iload 4, 12, 4, 0, 0, 0), (12, .aload_n 0, 13, 0, 0, 0, 0), (13, .getfield 131, 16, 0, 0, 0, 0), (16, .if_icmp .ge 197, 19, 213, 0, 0, 0), (19, .aload_n 0, 20, 0, 0, 0, 0), (20, .getfield 72, 23, 0, 0, 0, 0), (23, .iload 4, 25, 4, 0, 0, 0), (25, .laload, 26, 0, 0, 0, 0), (26, .aload_n 0, 27, 0, 0, 0, 0), (27, .getfield 78, 30, 0, 0, 0, 0), (30, .iload 4, 32, 4, 0, 0, 0), (32, .laload, 33, 0, 0, 0, 0), (33, .invokestatic 163, 36, 0, 0, 0, 0), (36, .lstore 5, 38, 5, 0, 0, 0), (38, .aload_n 0, 39, 0, 0, 0, 0), (39, .getfield 75, 42, 0, 0, 0, 0), (42, .iload 4, 44, 4, 0, 0, 0), (44, .laload, 45, 0, 0, 0, 0), (45, .aload_n 0, 46, 0, 0, 0, 0), (46, .getfield 78, 49, 0, 0, 0, 0), (49, .iload 4, 51, 4, 0, 0, 0), (51, .laload, 52, 0, 0, 0, 0), (52, .invokestatic 163, 55, 0, 0, 0, 0), (55, .lstore 7, 57, 7, 0, 0, 0), (57, .aload_n 0, 58, 0, 0, 0, 0), (58, .getfield 72, 61, 0, 0, 0, 0), (61, .iload 4, 63, 4, 0, 0, 0), (63, .laload, 64, 0, 0, 0, 0), (64, .lneg, 65, 0, 0, 0, 0), (65, .aload_n 0, 66, 0, 0, 0, 0), (66, .getfield 78, 69, 0, 0, 0, 0), (69, .iload 4, 71, 4, 0, 0, 0), (71, .laload, 72, 0, 0, 0, 0), (72, .invokestatic 163, 75, 0, 0, 0, 0), (75, .lneg, 76, 0, 0, 0, 0), (76, .lstore 9, 78, 9, 0, 0, 0), (78, .aload_n 0, 79, 0, 0, 0, 0), (79, .getfield 75, 82, 0, 0, 0, 0), (82, .iload 4, 84, 4, 0, 0, 0), (84, .laload, 85, 0, 0, 0, 0), (85, .lneg, 86, 0, 0, 0, 0), (86, .aload_n 0, 87, 0, 0, 0, 0), (87, .getfield 78, 90, 0, 0, 0, 0), (90, .iload 4, 92, 4, 0, 0, 0), (92, .laload, 93, 0, 0, 0, 0), (93, .invokestatic 163, 96, 0, 0, 0, 0), (96, .lneg, 97, 0, 0, 0, 0), (97, .lstore 11, 99, 11, 0, 0, 0), (99, .aload_n 0, 100, 0, 0, 0, 0), (100, .getfield 81, 103, 0, 0, 0, 0), (103, .iconst 0, 104, 0, 0, 0, 0), (104, .iload 4, 106, 4, 0, 0, 0), (106, .ifCond .ne 8, 109, 114, 0, 0, 0), (109, .lload 5, 111, 5, 0, 0, 0), (111, .goto 14, 114, 125, 0, 0, 0), (114, .aload_n 0, 115, 0, 0, 0, 0), (115, .getfield 81, 118, 0, 0, 0, 0), (118, .iconst 0, 119, 0, 0, 0, 0), (119, .laload, 120, 0, 0, 0, 0), (120, .lload 5, 122, 5, 0, 0, 0), (122, .invokestatic 166, 125, 0, 0, 0, 0), (125, .lastore, 126, 0, 0, 0, 0), (126, .aload_n 0, 127, 0, 0, 0, 0), (127, .getfield 81, 130, 0, 0, 0, 0), (130, .iconst 1, 131, 0, 0, 1, 0), (131, .iload 4, 133, 4, 0, 0, 0), (133, .ifCond .ne 8, 136, 141, 0, 0, 0), (136, .lload 7, 138, 7, 0, 0, 0), (138, .goto 14, 141, 152, 0, 0, 0), (141, .aload_n 0, 142, 0, 0, 0, 0), (142, .getfield 81, 145, 0, 0, 0, 0), (145, .iconst 1, 146, 0, 0, 1, 0), (146, .laload, 147, 0, 0, 0, 0), (147, .lload 7, 149, 7, 0, 0, 0), (149, .invokestatic 166, 152, 0, 0, 0, 0), (152, .lastore, 153, 0, 0, 0, 0), (153, .aload_n 0, 154, 0, 0, 0, 0), (154, .getfield 81, 157, 0, 0, 0, 0), (157, .iconst 2, 158, 0, 0, 2, 0), (158, .iload 4, 160, 4, 0, 0, 0), (160, .ifCond .ne 8, 163, 168, 0, 0, 0), (163, .lload 9, 165, 9, 0, 0, 0), (165, .goto 14, 168, 179, 0, 0, 0), (168, .aload_n 0, 169, 0, 0, 0, 0), (169, .getfield 81, 172, 0, 0, 0, 0), (172, .iconst 2, 173, 0, 0, 2, 0), (173, .laload, 174, 0, 0, 0, 0), (174, .lload 9, 176, 9, 0, 0, 0), (176, .invokestatic 169, 179, 0, 0, 0, 0), (179, .lastore, 180, 0, 0, 0, 0), (180, .aload_n 0, 181, 0, 0, 0, 0), (181, .getfield 81, 184, 0, 0, 0, 0), (184, .iconst 3, 185, 0, 0, 3, 0), (185, .iload 4, 187, 4, 0, 0, 0), (187, .ifCond .ne 8, 190, 195, 0, 0, 0), (190, .lload 11, 192, 11, 0, 0, 0), (192, .goto 14, 195, 206, 0, 0, 0), (195, .aload_n 0, 196, 0, 0, 0, 0), (196, .getfield 81, 199, 0, 0, 0, 0), (199, .iconst 3, 200, 0, 0, 3, 0), (200, .laload, 201, 0, 0, 0, 0), (201, .lload 11, 203, 11, 0, 0, 0), (203, .invokestatic 169, 206, 0, 0, 0, 0), (206, .lastore, 207, 0, 0, 0, 0), (207, .iinc 4 1, 210, 4, 0, 1, 0), (210, .goto (-200), 213, 10, 0, 0, 0), (213, .return_, 214, 0, 0, 0, 0)]
def s_X7_boxOf : List (Int32 × Nat) := []
theorem r_X7_boxOf : ∀ q ∈ k_X7_boxOf, rz_row yX7_boxOf.cls cX7_boxOf 13 none false s_X7_boxOf q.1 q.2 := rz_rows (by decide +kernel)
theorem m_X7_boxOf : rz_MW yX7_boxOf cX7_boxOf 13 none 2 := ⟨bw_t 889 (by decide +kernel) rfl, bw_t 9 (by decide +kernel) rfl, by decide +kernel, by decide +kernel, by decide +kernel⟩
theorem i_X7_boxOf : Cond.instanceMethod yX7_boxOf ∈ bw := bw_t 888 (by decide +kernel) rfl
theorem v_X7_boxOf : Cond.selects yX7_boxOf.cls yX7_boxOf yX7_boxOf ∈ bw := bw_p 58 (by decide +kernel) rfl
def k_X7_call : List (Nat × rz_I) := [(0, .aload_n 0, 1, 0, 0, 0, 0), (1, .iconst 0, 2, 0, 0, 0, 0), (2, .putfield 84, 5, 0, 0, 0, 0), (5, .iload_n 1, 6, 1, 0, 0, 0), (6, .iconst 0, 7, 0, 0, 0, 0), (7, .iconst 4, 8, 0, 0, 4, 0), (8, .invokestatic 87, 11, 0, 0, 0, 0), (11, .ifCond .eq 19, 14, 30, 0, 0, 0), (14, .iload_n 2, 15, 2, 0, 0, 0), (15, .iconst (-1), 16, 0, 0, (-1), 0), (16, .if_icmp .eq 16, 19, 32, 0, 0, 0), (19, .iload_n 2, 20, 2, 0, 0, 0), (20, .iconst 0, 21, 0, 0, 0, 0), (21, .sipush 2000, 24, 0, 0, 2000, 0), (24, .invokestatic 87, 27, 0, 0, 0, 0), (27, .ifCond .ne 5, 30, 32, 0, 0, 0), (30, .iconst 0, 31, 0, 0, 0, 0), (31, .ireturn, 32, 0, 0, 0, 0), (32, .aload_n 0, 33, 0, 0, 0, 0), (33, .getfield 50, 36, 0, 0, 0, 0), (36, .iload_n 1, 37, 1, 0, 0, 0), (37, .iload_n 2, 38, 2, 0, 0, 0), (38, .iastore, 39, 0, 0, 0, 0), (39, .iconst 1, 40, 0, 0, 1, 0), (40, .ireturn, 41, 0, 0, 0, 0)]
def s_X7_call : List (Int32 × Nat) := []
theorem r_X7_call : ∀ q ∈ k_X7_call, rz_row yX7_call.cls cX7_call 3 (some .boolean) true s_X7_call q.1 q.2 := rz_rows (by decide +kernel)
theorem m_X7_call : rz_MW yX7_call cX7_call 3 (some .boolean) 2 := ⟨bw_t 940 (by decide +kernel) rfl, bw_t 9 (by decide +kernel) rfl, by decide +kernel, by decide +kernel, by decide +kernel⟩
theorem i_X7_call : Cond.instanceMethod yX7_call ∈ bw := bw_t 938 (by decide +kernel) rfl
theorem v_X7_call : Cond.selects yX7_call.cls yX7_call yX7_call ∈ bw := bw_t 939 (by decide +kernel) rfl
def k_X7_common : List (Nat × rz_I) := [(0, .lload_n 0, 1, 0, 0, 0, 0), (1, .invokestatic 153, 4, 0, 0, 0, 0), (4, .lstore 4, 6, 4, 0, 0, 0), (6, .lload_n 2, 7, 2, 0, 0, 0), (7, .invokestatic 153, 10, 0, 0, 0, 0), (10, .lstore 6, 12, 6, 0, 0, 0), (12, .lload 6, 14, 6, 0, 0, 0), (14, .lconst 0, 15, 0, 0, 0, 0), (15, .lcmp, 16, 0, 0, 0, 0), (16, .ifCond .eq 21, 19, 37, 0, 0, 0), (19, .lload 4, 21, 4, 0, 0, 0), (21, .lload 6, 23, 6, 0, 0, 0), (23, .lrem, 24, 0, 0, 0, 0), (24, .lstore 8, 26, 8, 0, 0, 0), (26, .lload 6, 28, 6, 0, 0, 0), (28, .lstore 4, 30, 4, 0, 0, 0), (30, .lload 8, 32, 8, 0, 0, 0), (32, .lstore 6, 34, 6, 0, 0, 0), (34, .goto (-22), 37, 12, 0, 0, 0), (37, .lload 4, 39, 4, 0, 0, 0), (39, .lreturn, 40, 0, 0, 0, 0)]
def s_X7_common : List (Int32 × Nat) := []
theorem r_X7_common : ∀ q ∈ k_X7_common, rz_row yX7_common.cls cX7_common 10 (some .long) false s_X7_common q.1 q.2 := rz_rows (by decide +kernel)
theorem m_X7_common : rz_MW yX7_common cX7_common 10 (some .long) 2 := ⟨bw_t 880 (by decide +kernel) rfl, bw_t 9 (by decide +kernel) rfl, by decide +kernel, by decide +kernel, by decide +kernel⟩
theorem t_X7_common : Cond.static yX7_common ∈ bw := bw_t 879 (by decide +kernel) rfl
def k_X7_compare : List (Nat × rz_I) := [(0, .aload_n 0, 1, 0, 0, 0, 0), (1, .getfield 72, 4, 0, 0, 0, 0), (4, .iload_n 1, 5, 1, 0, 0, 0), (5, .laload, 6, 0, 0, 0, 0), (6, .lload 6, 8, 6, 0, 0, 0), (8, .lmul, 9, 0, 0, 0, 0), (9, .lload_n 2, 10, 2, 0, 0, 0), (10, .aload_n 0, 11, 0, 0, 0, 0), (11, .getfield 78, 14, 0, 0, 0, 0), (14, .iload_n 1, 15, 1, 0, 0, 0), (15, .laload, 16, 0, 0, 0, 0), (16, .lmul, 17, 0, 0, 0, 0), (17, .invokestatic 145, 20, 0, 0, 0, 0), (20, .istore 8, 22, 8, 0, 0, 0), (22, .iload 8, 24, 8, 0, 0, 0), (24, .ifCond .eq 8, 27, 32, 0, 0, 0), (27, .iload 8, 29, 8, 0, 0, 0), (29, .goto 24, 32, 53, 0, 0, 0), (32, .aload_n 0, 33, 0, 0, 0, 0), (33, .getfield 75, 36, 0, 0, 0, 0), (36, .iload_n 1, 37, 1, 0, 0, 0), (37, .laload, 38, 0, 0, 0, 0), (38, .lload 6, 40, 6, 0, 0, 0), (40, .lmul, 41, 0, 0, 0, 0), (41, .lload 4, 43, 4, 0, 0, 0), (43, .aload_n 0, 44, 0, 0, 0, 0), (44, .getfield 78, 47, 0, 0, 0, 0), (47, .iload_n 1, 48, 1, 0, 0, 0), (48, .laload, 49, 0, 0, 0, 0), (49, .lmul, 50, 0, 0, 0, 0), (50, .invokestatic 145, 53, 0, 0, 0, 0), (53, .ireturn, 54, 0, 0, 0, 0)]
def s_X7_compare : List (Int32 × Nat) := []
theorem r_X7_compare : ∀ q ∈ k_X7_compare, rz_row yX7_compare.cls cX7_compare 9 (some .int) false s_X7_compare q.1 q.2 := rz_rows (by decide +kernel)
theorem m_X7_compare : rz_MW yX7_compare cX7_compare 9 (some .int) 4 := ⟨bw_t 868 (by decide +kernel) rfl, bw_t 9 (by decide +kernel) rfl, by decide +kernel, by decide +kernel, by decide +kernel⟩
theorem i_X7_compare : Cond.instanceMethod yX7_compare ∈ bw := bw_t 867 (by decide +kernel) rfl
theorem v_X7_compare : Cond.selects yX7_compare.cls yX7_compare yX7_compare ∈ bw := bw_p 57 (by decide +kernel) rfl
def k_X7_corner : List (Nat × rz_I) := [(0, .aload_n 0, 1, 0, 0, 0, 0), (1, .aload_n 0, 2, 0, 0, 0, 0), (2, .iload_n 1, 3, 1, 0, 0, 0), (3, .iload_n 2, 4, 2, 0, 0, 0), (4, .invokevirtual 150, 7, 0, 0, 0, 0), (7, .iconst 1, 8, 0, 0, 1, 0), (8, .if_icmp .ne 25, 11, 33, 0, 0, 0), (11, .iload_n 3, 12, 3, 0, 0, 0), (12, .ifCond .lt 21, 15, 33, 0, 0, 0), (15, .iload_n 3, 16, 3, 0, 0, 0), (16, .aload_n 0, 17, 0, 0, 0, 0), (17, .getfield 131, 20, 0, 0, 0, 0), (20, .if_icmp .ge 13, 23, 33, 0, 0, 0), (23, .iload 4, 25, 4, 0, 0, 0), (25, .iconst 0, 26, 0, 0, 0, 0), (26, .iconst 3, 27, 0, 0, 3, 0), (27, .invokestatic 87, 30, 0, 0, 0, 0), (30, .ifCond .ne 7, 33, 37, 0, 0, 0), (33, .iconst 1, 34, 0, 0, 1, 0), (34, .goto 4, 37, 38, 0, 0, 0), (37, .iconst 0, 38, 0, 0, 0, 0), (38, .putfield 84, 41, 0, 0, 0, 0), (41, .aload_n 0, 42, 0, 0, 0, 0), (42, .getfield 84, 45, 0, 0, 0, 0), (45, .ifCond .le 5, 48, 50, 0, 0, 0), (48, .lconst 0, 49, 0, 0, 0, 0), (49, .lreturn, 50, 0, 0, 0, 0), (50, .iload 4, 52, 4, 0, 0, 0), (52, .iconst 2, 53, 0, 0, 2, 0), (53, .if_icmp .ge 12, 56, 65, 0, 0, 0), (56, .aload_n 0, 57, 0, 0, 0, 0), (57, .getfield 72, 60, 0, 0, 0, 0), (60, .iload_n 3, 61, 3, 0, 0, 0), (61, .laload, 62, 0, 0, 0, 0), (62, .goto 9, 65, 71, 0, 0, 0), (65, .aload_n 0, 66, 0, 0, 0, 0), (66, .getfield 75, 69, 0, 0, 0, 0), (69, .iload_n 3, 70, 3, 0, 0, 0), (70, .laload, 71, 0, 0, 0, 0), (71, .lstore 5, 73, 5, 0, 0, 0), (73, .lload 5, 75, 5, 0, 0, 0), (75, .aload_n 0, 76, 0, 0, 0, 0), (76, .getfield 78, 79, 0, 0, 0, 0), (79, .iload_n 3, 80, 3, 0, 0, 0), (80, .laload, 81, 0, 0, 0, 0), (81, .invokestatic 159, 84, 0, 0, 0, 0), (84, .lstore 7, 86, 7, 0, 0, 0), (86, .iload 4, 88, 4, 0, 0, 0), (88, .iconst 2, 89, 0, 0, 2, 0), (89, .irem, 90, 0, 0, 0, 0), (90, .ifCond .ne 11, 93, 101, 0, 0, 0), (93, .lload 5, 95, 5, 0, 0, 0), (95, .lload 7, 97, 7, 0, 0, 0), (97, .ldiv, 98, 0, 0, 0, 0), (98, .goto 12, 101, 110, 0, 0, 0), (101, .aload_n 0, 102, 0, 0, 0, 0), (102, .getfield 78, 105, 0, 0, 0, 0), (105, .iload_n 3, 106, 3, 0, 0, 0), (106, .laload, 107, 0, 0, 0, 0), (107, .lload 7, 109, 7, 0, 0, 0), (109, .ldiv, 110, 0, 0, 0, 0), (110, .lreturn, 111, 0, 0, 0, 0)]
def s_X7_corner : List (Int32 × Nat) := []
theorem r_X7_corner : ∀ q ∈ k_X7_corner, rz_row yX7_corner.cls cX7_corner 9 (some .long) false s_X7_corner q.1 q.2 := rz_rows (by decide +kernel)
theorem m_X7_corner : rz_MW yX7_corner cX7_corner 9 (some .long) 4 := ⟨bw_t 877 (by decide +kernel) rfl, bw_t 9 (by decide +kernel) rfl, by decide +kernel, by decide +kernel, by decide +kernel⟩
theorem i_X7_corner : Cond.instanceMethod yX7_corner ∈ bw := bw_t 875 (by decide +kernel) rfl
theorem v_X7_corner : Cond.selects yX7_corner.cls yX7_corner yX7_corner ∈ bw := bw_t 876 (by decide +kernel) rfl
def k_X7_corners : List (Nat × rz_I) := [(0, .aload_n 0, 1, 0, 0, 0, 0), (1, .iconst 0, 2, 0, 0, 0, 0), (2, .putfield 84, 5, 0, 0, 0, 0), (5, .aload_n 0, 6, 0, 0, 0, 0), (6, .iload_n 1, 7, 1, 0, 0, 0), (7, .iload_n 2, 8, 2, 0, 0, 0), (8, .invokevirtual 150, 11, 0, 0, 0, 0), (11, .iconst 1, 12, 0, 0, 1, 0), (12, .if_icmp .ne 10, 15, 22, 0, 0, 0), (15, .aload_n 0, 16, 0, 0, 0, 0), (16, .getfield 131, 19, 0, 0, 0, 0), (19, .goto 4, 22, 23, 0, 0, 0), (22, .iconst (-1), 23, 0, 0, (-1), 0), (23, .ireturn, 24, 0, 0, 0, 0)]
def s_X7_corners : List (Int32 × Nat) := []
theorem r_X7_corners : ∀ q ∈ k_X7_corners, rz_row yX7_corners.cls cX7_corners 3 (some .int) false s_X7_corners q.1 q.2 := rz_rows (by decide +kernel)
theorem m_X7_corners : rz_MW yX7_corners cX7_corners 3 (some .int) 2 := ⟨bw_t 873 (by decide +kernel) rfl, bw_t 9 (by decide +kernel) rfl, by decide +kernel, by decide +kernel, by decide +kernel⟩
theorem i_X7_corners : Cond.instanceMethod yX7_corners ∈ bw := bw_t 871 (by decide +kernel) rfl
theorem v_X7_corners : Cond.selects yX7_corners.cls yX7_corners yX7_corners ∈ bw := bw_t 872 (by decide +kernel) rfl
def k_X7_count : List (Nat × rz_I) := [(0, .aload_n 0, 1, 0, 0, 0, 0), (1, .iconst 0, 2, 0, 0, 0, 0), (2, .putfield 84, 5, 0, 0, 0, 0), (5, .iload_n 1, 6, 1, 0, 0, 0), (6, .tableswitch 135 0 8 #[50, 55, 60, 65, 70, 75, 80, 85, 90], 56, 141, 0, 0, 0), (56, .aload_n 0, 57, 0, 0, 0, 0), (57, .getfield 116, 60, 0, 0, 0, 0), (60, .ireturn, 61, 0, 0, 0, 0), (61, .aload_n 0, 62, 0, 0, 0, 0), (62, .getfield 91, 65, 0, 0, 0, 0), (65, .ireturn, 66, 0, 0, 0, 0), (66, .aload_n 0, 67, 0, 0, 0, 0), (67, .getfield 98, 70, 0, 0, 0, 0), (70, .ireturn, 71, 0, 0, 0, 0), (71, .aload_n 0, 72, 0, 0, 0, 0), (72, .getfield 113, 75, 0, 0, 0, 0), (75, .ireturn, 76, 0, 0, 0, 0), (76, .aload_n 0, 77, 0, 0, 0, 0), (77, .getfield 175, 80, 0, 0, 0, 0), (80, .ireturn, 81, 0, 0, 0, 0), (81, .aload_n 0, 82, 0, 0, 0, 0), (82, .getfield 178, 85, 0, 0, 0, 0), (85, .ireturn, 86, 0, 0, 0, 0), (86, .aload_n 0, 87, 0, 0, 0, 0), (87, .getfield 188, 90, 0, 0, 0, 0), (90, .ireturn, 91, 0, 0, 0, 0), (91, .aload_n 0, 92, 0, 0, 0, 0), (92, .getfield 210, 95, 0, 0, 0, 0), (95, .ireturn, 96, 0, 0, 0, 0), (96, .iconst 0, 97, 0, 0, 0, 0), (97, .istore_n 2, 98, 2, 0, 0, 0), (98, .iconst 0, 99, 0, 0, 0, 0), (99, .istore_n 3, 100, 3, 0, 0, 0), (100, .iload_n 3, 101, 3, 0, 0, 0), (101, .aload_n 0, 102, 0, 0, 0, 0), (102, .getfield 188, 105, 0, 0, 0, 0), (105, .if_icmp .ge 34, 108, 139, 0, 0, 0), (108, .iload_n 2, 109, 2, 0, 0, 0), (109, .aload_n 0, 110, 0, 0, 0, 0), (110, .iload_n 3, 111, 3, 0, 0, 0), (111, .aload_n 0, 112, 0, 0, 0, 0), (112, .getfield 116, 115, 0, 0, 0, 0), (115, .aload_n 0, 116, 0, 0, 0, 0), (116, .getfield 116, 119, 0, 0, 0, 0), (119, .invokevirtual 202, 122, 0, 0, 0, 0), (122, .iconst 3, 123, 0, 0, 3, 0), (123, .if_icmp .ne 7, 126, 130, 0, 0, 0), (126, .iconst 1, 127, 0, 0, 1, 0), (127, .goto 4, 130, 131, 0, 0, 0), (130, .iconst 0, 131, 0, 0, 0, 0), (131, .iadd, 132, 0, 0, 0, 0), (132, .istore_n 2, 133, 2, 0, 0, 0), (133, .iinc 3 1, 136, 3, 0, 1, 0), (136, .goto (-36), 139, 100, 0, 0, 0), (139, .iload_n 2, 140, 2, 0, 0, 0), (140, .ireturn, 141, 0, 0, 0, 0), (141, .iconst (-1), 142, 0, 0, (-1), 0), (142, .ireturn, 143, 0, 0, 0, 0)]
def s_X7_count : List (Int32 × Nat) := [(0, 56), (1, 61), (2, 66), (3, 71), (4, 76), (5, 81), (6, 86), (7, 91), (8, 96)]
theorem r_X7_count : ∀ q ∈ k_X7_count, rz_row yX7_count.cls cX7_count 4 (some .int) false s_X7_count q.1 q.2 := rz_rows (by decide +kernel)
theorem m_X7_count : rz_MW yX7_count cX7_count 4 (some .int) 1 := ⟨bw_t 956 (by decide +kernel) rfl, bw_t 9 (by decide +kernel) rfl, by decide +kernel, by decide +kernel, by decide +kernel⟩
theorem i_X7_count : Cond.instanceMethod yX7_count ∈ bw := bw_t 954 (by decide +kernel) rfl
theorem v_X7_count : Cond.selects yX7_count.cls yX7_count yX7_count ∈ bw := bw_t 955 (by decide +kernel) rfl
def k_X7_cross : List (Nat × rz_I) := [(0, .aload_n 0, 1, 0, 0, 0, 0), (1, .getfield 62, 4, 0, 0, 0, 0), (4, .iload_n 1, 5, 1, 0, 0, 0), (5, .laload, 6, 0, 0, 0, 0), (6, .aload_n 0, 7, 0, 0, 0, 0), (7, .getfield 66, 10, 0, 0, 0, 0), (10, .iload_n 2, 11, 2, 0, 0, 0), (11, .laload, 12, 0, 0, 0, 0), (12, .lmul, 13, 0, 0, 0, 0), (13, .aload_n 0, 14, 0, 0, 0, 0), (14, .getfield 62, 17, 0, 0, 0, 0), (17, .iload_n 2, 18, 2, 0, 0, 0), (18, .laload, 19, 0, 0, 0, 0), (19, .aload_n 0, 20, 0, 0, 0, 0), (20, .getfield 66, 23, 0, 0, 0, 0), (23, .iload_n 1, 24, 1, 0, 0, 0), (24, .laload, 25, 0, 0, 0, 0), (25, .lmul, 26, 0, 0, 0, 0), (26, .lsub, 27, 0, 0, 0, 0), (27, .lstore_n 3, 28, 3, 0, 0, 0), (28, .lload_n 3, 29, 3, 0, 0, 0), (29, .lconst 0, 30, 0, 0, 0, 0), (30, .lcmp, 31, 0, 0, 0, 0), (31, .ifCond .ne 4, 34, 35, 0, 0, 0), (34, .return_, 35, 0, 0, 0, 0), (35, .aload_n 0, 36, 0, 0, 0, 0), (36, .getfield 69, 39, 0, 0, 0, 0), (39, .iload_n 1, 40, 1, 0, 0, 0), (40, .laload, 41, 0, 0, 0, 0), (41, .aload_n 0, 42, 0, 0, 0, 0), (42, .getfield 66, 45, 0, 0, 0, 0), (45, .iload_n 2, 46, 2, 0, 0, 0), (46, .laload, 47, 0, 0, 0, 0), (47, .lmul, 48, 0, 0, 0, 0), (48, .aload_n 0, 49, 0, 0, 0, 0), (49, .getfield 69, 52, 0, 0, 0, 0), (52, .iload_n 2, 53, 2, 0, 0, 0), (53, .laload, 54, 0, 0, 0, 0), (54, .aload_n 0, 55, 0, 0, 0, 0), (55, .getfield 66, 58, 0, 0, 0, 0), (58, .iload_n 1, 59, 1, 0, 0, 0), (59, .laload, 60, 0, 0, 0, 0), (60, .lmul, 61, 0, 0, 0, 0), (61, .lsub, 62, 0, 0, 0, 0), (62, .lstore 5, 64, 5, 0, 0, 0), (64, .aload_n 0, 65, 0, 0, 0, 0), (65, .getfield 62, 68, 0, 0, 0, 0), (68, .iload_n 1, 69, 1, 0, 0, 0), (69, .laload, 70, 0, 0, 0, 0), (70, .aload_n 0, 71, 0, 0, 0, 0), (71, .getfield 69, 74, 0, 0, 0, 0), (74, .iload_n 2, 75, 2, 0, 0, 0), (75, .laload, 76, 0, 0, 0, 0), (76, .lmul, 77, 0, 0, 0, 0), (77, .aload_n 0, 78, 0, 0, 0, 0), (78, .getfield 62, 81, 0, 0, 0, 0), (81, .iload_n 2, 82, 2, 0, 0, 0), (82, .laload, 83, 0, 0, 0, 0), (83, .aload_n 0, 84, 0, 0, 0, 0), (84, .getfield 69, 87, 0, 0, 0, 0), (87, .iload_n 1, 88, 1, 0, 0, 0), (88, .laload, 89, 0, 0, 0, 0), (89, .lmul, 90, 0, 0, 0, 0), (90, .lsub, 91, 0, 0, 0, 0), (91, .lstore 7, 93, 7, 0, 0, 0), (93, .lload_n 3, 94, 3, 0, 0, 0), (94, .lconst 0, 95, 0, 0, 0, 0), (95, .lcmp, 96, 0, 0, 0, 0), (96, .ifCond .ge 16, 99, 112, 0, 0, 0), (99, .lload_n 3, 100, 3, 0, 0, 0), (100, .lneg, 101, 0, 0, 0, 0), (101, .lstore_n 3, 102, 3, 0, 0, 0), (102, .lload 5, 104, 5, 0, 0, 0), (104, .lneg, 105, 0, 0, 0, 0), (105, .lstore 5, 107, 5, 0, 0, 0), (107, .lload 7, 109, 7, 0, 0, 0), (109, .lneg, 110, 0, 0, 0, 0), (110, .lstore 7, 112, 7, 0, 0, 0), (112, .aload_n 0, 113, 0, 0, 0, 0), (113, .lload 5, 115, 5, 0, 0, 0), (115, .lload 7, 117, 7, 0, 0, 0), (117, .lload_n 3, 118, 3, 0, 0, 0), (118, .iconst 0, 119, 0, 0, 0, 0), (119, .invokevirtual 137, 122, 0, 0, 0, 0), (122, .ifCond .ne 4, 125, 126, 0, 0, 0), (125, .return_, 126, 0, 0, 0, 0), (126, .iconst 0, 127, 0, 0, 0, 0), (127, .istore 9, 129, 9, 0, 0, 0), (129, .iload 9, 131, 9, 0, 0, 0), (131, .aload_n 0, 132, 0, 0, 0, 0), (132, .getfield 131, 135, 0, 0, 0, 0), (135, .if_icmp .ge 23, 138, 158, 0, 0, 0), (138, .aload_n 0, 139, 0, 0, 0, 0), (139, .iload 9, 141, 9, 0, 0, 0), (141, .lload 5, 143, 5, 0, 0, 0), (143, .lload 7, 145, 7, 0, 0, 0), (145, .lload_n 3, 146, 3, 0, 0, 0), (146, .invokevirtual 141, 149, 0, 0, 0, 0), (149, .ifCond .ge 9, 152, 158, 0, 0, 0), (152, .iinc 9 1, 155, 9, 0, 1, 0), (155, .goto (-26), 158, 129, 0, 0, 0), (158, .iload 9, 160, 9, 0, 0, 0), (160, .aload_n 0, 161, 0, 0, 0, 0), (161, .getfield 131, 164, 0, 0, 0, 0), (164, .if_icmp .ge 18, 167, 182, 0, 0, 0), (167, .aload_n 0, 168, 0, 0, 0, 0), (168, .iload 9, 170, 9, 0, 0, 0), (170, .lload 5, 172, 5, 0, 0, 0), (172, .lload 7, 174, 7, 0, 0, 0), (174, .lload_n 3, 175, 3, 0, 0, 0), (175, .invokevirtual 141, 178, 0, 0, 0, 0), (178, .ifCond .ne 4, 181, 182, 0, 0, 0), (181, .return_, 182, 0, 0, 0, 0), (182, .aload_n 0, 183, 0, 0, 0, 0), (183, .getfield 131, 186, 0, 0, 0, 0), (186, .istore 10, 188, 10, 0, 0, 0), (188, .iload 10, 190, 10, 0, 0, 0), (190, .iload 9, 192, 9, 0, 0, 0), (192, .if_icmp .le 57, 195, 249, 0, 0, 0), (195, .aload_n 0, 196, 0, 0, 0, 0), (196, .getfield 72, 199, 0, 0, 0, 0), (199, .iload 10, 201, 10, 0, 0, 0), (201, .aload_n 0, 202, 0, 0, 0, 0), (202, .getfield 72, 205, 0, 0, 0, 0), (205, .iload 10, 207, 10, 0, 0, 0), (207, .iconst 1, 208, 0, 0, 1, 0), (208, .isub, 209, 0, 0, 0, 0), (209, .laload, 210, 0, 0, 0, 0), (210, .lastore, 211, 0, 0, 0, 0), (211, .aload_n 0, 212, 0, 0, 0, 0), (212, .getfield 75, 215, 0, 0, 0, 0), (215, .iload 10, 217, 10, 0, 0, 0), (217, .aload_n 0, 218, 0, 0, 0, 0), (218, .getfield 75, 221, 0, 0, 0, 0), (221, .iload 10, 223, 10, 0, 0, 0), (223, .iconst 1, 224, 0, 0, 1, 0), (224, .isub, 225, 0, 0, 0, 0), (225, .laload, 226, 0, 0, 0, 0), (226, .lastore, 227, 0, 0, 0, 0), (227, .aload_n 0, 228, 0, 0, 0, 0), (228, .getfield 78, 231, 0, 0, 0, 0), (231, .iload 10, 233, 10, 0, 0, 0), (233, .aload_n 0, 234, 0, 0, 0, 0), (234, .getfield 78, 237, 0, 0, 0, 0), (237, .iload 10, 239, 10, 0, 0, 0), (239, .iconst 1, 240, 0, 0, 1, 0), (240, .isub, 241, 0, 0, 0, 0), (241, .laload, 242, 0, 0, 0, 0), (242, .lastore, 243, 0, 0, 0, 0), (243, .iinc 10 (-1), 246, 10, 0, (-1), 0), (246, .goto (-58), 249, 188, 0, 0, 0), (249, .aload_n 0, 250, 0, 0, 0, 0), (250, .getfield 72, 253, 0, 0, 0, 0), (253, .iload 9, 255, 9, 0, 0, 0), (255, .lload 5, 257, 5, 0, 0, 0), (257, .lastore, 258, 0, 0, 0, 0), (258, .aload_n 0, 259, 0, 0, 0, 0), (259, .getfield 75, 262, 0, 0, 0, 0), (262, .iload 9, 264, 9, 0, 0, 0), (264, .lload 7, 266, 7, 0, 0, 0), (266, .lastore, 267, 0, 0, 0, 0), (267, .aload_n 0, 268, 0, 0, 0, 0), (268, .getfield 78, 271, 0, 0, 0, 0), (271, .iload 9, 273, 9, 0, 0, 0), (273, .lload_n 3, 274, 3, 0, 0, 0), (274, .lastore, 275, 0, 0, 0, 0), (275, .aload_n 0, 276, 0, 0, 0, 0), (276, .dup, 277, 0, 0, 0, 0), (277, .getfield 131, 280, 0, 0, 0, 0), (280, .iconst 1, 281, 0, 0, 1, 0), (281, .iadd, 282, 0, 0, 0, 0), (282, .putfield 131, 285, 0, 0, 0, 0), (285, .return_, 286, 0, 0, 0, 0)]
def s_X7_cross : List (Int32 × Nat) := []
theorem r_X7_cross : ∀ q ∈ k_X7_cross, rz_row yX7_cross.cls cX7_cross 11 none false s_X7_cross q.1 q.2 := rz_rows (by decide +kernel)
theorem m_X7_cross : rz_MW yX7_cross cX7_cross 11 none 2 := ⟨bw_t 860 (by decide +kernel) rfl, bw_t 9 (by decide +kernel) rfl, by decide +kernel, by decide +kernel, by decide +kernel⟩
theorem i_X7_cross : Cond.instanceMethod yX7_cross ∈ bw := bw_t 859 (by decide +kernel) rfl
theorem v_X7_cross : Cond.selects yX7_cross.cls yX7_cross yX7_cross ∈ bw := bw_p 55 (by decide +kernel) rfl
def k_X7_gap : List (Nat × rz_I) := [(0, .lconst 0, 1, 0, 0, 0, 0), (1, .lload_n 0, 2, 0, 0, 0, 0), (2, .lload 6, 4, 6, 0, 0, 0), (4, .lsub, 5, 0, 0, 0, 0), (5, .lload 4, 7, 4, 0, 0, 0), (7, .lload_n 2, 8, 2, 0, 0, 0), (8, .lsub, 9, 0, 0, 0, 0), (9, .invokestatic 169, 12, 0, 0, 0, 0), (12, .invokestatic 169, 15, 0, 0, 0, 0), (15, .lreturn, 16, 0, 0, 0, 0)]
def s_X7_gap : List (Int32 × Nat) := []
theorem r_X7_gap : ∀ q ∈ k_X7_gap, rz_row yX7_gap.cls cX7_gap 8 (some .long) false s_X7_gap q.1 q.2 := rz_rows (by decide +kernel)
theorem m_X7_gap : rz_MW yX7_gap cX7_gap 8 (some .long) 4 := ⟨bw_t 903 (by decide +kernel) rfl, bw_t 9 (by decide +kernel) rfl, by decide +kernel, by decide +kernel, by decide +kernel⟩
theorem t_X7_gap : Cond.static yX7_gap ∈ bw := bw_t 902 (by decide +kernel) rfl
def k_X7_in : List (Nat × rz_I) := [(0, .aload_n 0, 1, 0, 0, 0, 0), (1, .iconst 0, 2, 0, 0, 0, 0), (2, .putfield 84, 5, 0, 0, 0, 0), (5, .iload_n 1, 6, 1, 0, 0, 0), (6, .iconst 0, 7, 0, 0, 0, 0), (7, .aload_n 0, 8, 0, 0, 0, 0), (8, .getfield 188, 11, 0, 0, 0, 0), (11, .iconst 1, 12, 0, 0, 1, 0), (12, .isub, 13, 0, 0, 0, 0), (13, .invokestatic 87, 16, 0, 0, 0, 0), (16, .ifCond .eq 13, 19, 29, 0, 0, 0), (19, .aload_n 0, 20, 0, 0, 0, 0), (20, .getfield 47, 23, 0, 0, 0, 0), (23, .iload_n 1, 24, 1, 0, 0, 0), (24, .iaload, 25, 0, 0, 0, 0), (25, .iconst (-1), 26, 0, 0, (-1), 0), (26, .if_icmp .eq 5, 29, 31, 0, 0, 0), (29, .iconst 0, 30, 0, 0, 0, 0), (30, .ireturn, 31, 0, 0, 0, 0), (31, .aload_n 0, 32, 0, 0, 0, 0), (32, .getfield 47, 35, 0, 0, 0, 0), (35, .iload_n 1, 36, 1, 0, 0, 0), (36, .aload_n 0, 37, 0, 0, 0, 0), (37, .getfield 116, 40, 0, 0, 0, 0), (40, .iastore, 41, 0, 0, 0, 0), (41, .iconst 1, 42, 0, 0, 1, 0), (42, .ireturn, 43, 0, 0, 0, 0)]
def s_X7_in : List (Int32 × Nat) := []
theorem r_X7_in : ∀ q ∈ k_X7_in, rz_row yX7_in.cls cX7_in 2 (some .boolean) true s_X7_in q.1 q.2 := rz_rows (by decide +kernel)
theorem m_X7_in : rz_MW yX7_in cX7_in 2 (some .boolean) 1 := ⟨bw_t 920 (by decide +kernel) rfl, bw_t 9 (by decide +kernel) rfl, by decide +kernel, by decide +kernel, by decide +kernel⟩
theorem i_X7_in : Cond.instanceMethod yX7_in ∈ bw := bw_t 918 (by decide +kernel) rfl
theorem v_X7_in : Cond.selects yX7_in.cls yX7_in yX7_in ∈ bw := bw_t 919 (by decide +kernel) rfl
def k_X7_isIn : List (Nat × rz_I) := [(0, .iload_n 0, 1, 0, 0, 0, 0), (1, .iload_n 1, 2, 1, 0, 0, 0), (2, .if_icmp .lt 12, 5, 14, 0, 0, 0), (5, .iload_n 0, 6, 0, 0, 0, 0), (6, .iload_n 2, 7, 2, 0, 0, 0), (7, .if_icmp .gt 7, 10, 14, 0, 0, 0), (10, .iconst 1, 11, 0, 0, 1, 0), (11, .goto 4, 14, 15, 0, 0, 0), (14, .iconst 0, 15, 0, 0, 0, 0), (15, .ireturn, 16, 0, 0, 0, 0)]
def s_X7_isIn : List (Int32 × Nat) := []
theorem r_X7_isIn : ∀ q ∈ k_X7_isIn, rz_row yX7_isIn.cls cX7_isIn 3 (some .boolean) true s_X7_isIn q.1 q.2 := rz_rows (by decide +kernel)
theorem m_X7_isIn : rz_MW yX7_isIn cX7_isIn 3 (some .boolean) 3 := ⟨bw_t 800 (by decide +kernel) rfl, bw_t 9 (by decide +kernel) rfl, by decide +kernel, by decide +kernel, by decide +kernel⟩
theorem t_X7_isIn : Cond.static yX7_isIn ∈ bw := bw_t 799 (by decide +kernel) rfl
def k_X7_isPair : List (Nat × rz_I) := [(0, .iload_n 1, 1, 1, 0, 0, 0), (1, .iconst 0, 2, 0, 0, 0, 0), (2, .aload_n 0, 3, 0, 0, 0, 0), (3, .getfield 113, 6, 0, 0, 0, 0), (6, .iconst 1, 7, 0, 0, 1, 0), (7, .isub, 8, 0, 0, 0, 0), (8, .invokestatic 87, 11, 0, 0, 0, 0), (11, .ifCond .eq 32, 14, 43, 0, 0, 0), (14, .iload_n 2, 15, 2, 0, 0, 0), (15, .iconst 0, 16, 0, 0, 0, 0), (16, .aload_n 0, 17, 0, 0, 0, 0), (17, .getfield 113, 20, 0, 0, 0, 0), (20, .iconst 1, 21, 0, 0, 1, 0), (21, .isub, 22, 0, 0, 0, 0), (22, .invokestatic 87, 25, 0, 0, 0, 0), (25, .ifCond .eq 18, 28, 43, 0, 0, 0), (28, .aload_n 0, 29, 0, 0, 0, 0), (29, .iload_n 1, 30, 1, 0, 0, 0), (30, .iconst 1, 31, 0, 0, 1, 0), (31, .invokevirtual 119, 34, 0, 0, 0, 0), (34, .aload_n 0, 35, 0, 0, 0, 0), (35, .iload_n 2, 36, 2, 0, 0, 0), (36, .iconst 1, 37, 0, 0, 1, 0), (37, .invokevirtual 119, 40, 0, 0, 0, 0), (40, .if_icmp .eq 5, 43, 45, 0, 0, 0), (43, .iconst 0, 44, 0, 0, 0, 0), (44, .ireturn, 45, 0, 0, 0, 0), (45, .aload_n 0, 46, 0, 0, 0, 0), (46, .iload_n 1, 47, 1, 0, 0, 0), (47, .iconst 0, 48, 0, 0, 0, 0), (48, .invokevirtual 119, 51, 0, 0, 0, 0), (51, .istore_n 3, 52, 3, 0, 0, 0), (52, .aload_n 0, 53, 0, 0, 0, 0), (53, .iload_n 2, 54, 2, 0, 0, 0), (54, .iconst 0, 55, 0, 0, 0, 0), (55, .invokevirtual 119, 58, 0, 0, 0, 0), (58, .istore 4, 60, 4, 0, 0, 0), (60, .aload_n 0, 61, 0, 0, 0, 0), (61, .getfield 9, 64, 0, 0, 0, 0), (64, .iload_n 3, 65, 3, 0, 0, 0), (65, .iaload, 66, 0, 0, 0, 0), (66, .aload_n 0, 67, 0, 0, 0, 0), (67, .getfield 9, 70, 0, 0, 0, 0), (70, .iload 4, 72, 4, 0, 0, 0), (72, .iaload, 73, 0, 0, 0, 0), (73, .if_icmp .ne 19, 76, 92, 0, 0, 0), (76, .aload_n 0, 77, 0, 0, 0, 0), (77, .getfield 13, 80, 0, 0, 0, 0), (80, .iload_n 3, 81, 3, 0, 0, 0), (81, .iaload, 82, 0, 0, 0, 0), (82, .aload_n 0, 83, 0, 0, 0, 0), (83, .getfield 13, 86, 0, 0, 0, 0), (86, .iload 4, 88, 4, 0, 0, 0), (88, .iaload, 89, 0, 0, 0, 0), (89, .if_icmp .eq 7, 92, 96, 0, 0, 0), (92, .iconst 1, 93, 0, 0, 1, 0), (93, .goto 4, 96, 97, 0, 0, 0), (96, .iconst 0, 97, 0, 0, 0, 0), (97, .ireturn, 98, 0, 0, 0, 0)]
def s_X7_isPair : List (Int32 × Nat) := []
theorem r_X7_isPair : ∀ q ∈ k_X7_isPair, rz_row yX7_isPair.cls cX7_isPair 5 (some .boolean) true s_X7_isPair q.1 q.2 := rz_rows (by decide +kernel)
theorem m_X7_isPair : rz_MW yX7_isPair cX7_isPair 5 (some .boolean) 2 := ⟨bw_t 847 (by decide +kernel) rfl, bw_t 9 (by decide +kernel) rfl, by decide +kernel, by decide +kernel, by decide +kernel⟩
theorem i_X7_isPair : Cond.instanceMethod yX7_isPair ∈ bw := bw_t 846 (by decide +kernel) rfl
theorem v_X7_isPair : Cond.selects yX7_isPair.cls yX7_isPair yX7_isPair ∈ bw := bw_p 52 (by decide +kernel) rfl
def k_X7_isPlace : List (Nat × rz_I) := [(0, .iload_n 0, 1, 0, 0, 0, 0), (1, .iconst 0, 2, 0, 0, 0, 0), (2, .sipush 2000, 5, 0, 0, 2000, 0), (5, .invokestatic 87, 8, 0, 0, 0, 0), (8, .ifCond .eq 18, 11, 26, 0, 0, 0), (11, .iload_n 1, 12, 1, 0, 0, 0), (12, .iconst 0, 13, 0, 0, 0, 0), (13, .sipush 2000, 16, 0, 0, 2000, 0), (16, .invokestatic 87, 19, 0, 0, 0, 0), (19, .ifCond .eq 7, 22, 26, 0, 0, 0), (22, .iconst 1, 23, 0, 0, 1, 0), (23, .goto 4, 26, 27, 0, 0, 0), (26, .iconst 0, 27, 0, 0, 0, 0), (27, .ireturn, 28, 0, 0, 0, 0)]
def s_X7_isPlace : List (Int32 × Nat) := []
theorem r_X7_isPlace : ∀ q ∈ k_X7_isPlace, rz_row yX7_isPlace.cls cX7_isPlace 2 (some .boolean) true s_X7_isPlace q.1 q.2 := rz_rows (by decide +kernel)
theorem m_X7_isPlace : rz_MW yX7_isPlace cX7_isPlace 2 (some .boolean) 2 := ⟨bw_t 797 (by decide +kernel) rfl, bw_t 9 (by decide +kernel) rfl, by decide +kernel, by decide +kernel, by decide +kernel⟩
theorem t_X7_isPlace : Cond.static yX7_isPlace ∈ bw := bw_t 796 (by decide +kernel) rfl
def k_X7_isWithin : List (Nat × rz_I) := [(0, .iconst 1, 1, 0, 0, 1, 0), (1, .istore 8, 3, 8, 0, 0, 0), (3, .iconst 0, 4, 0, 0, 0, 0), (4, .istore 9, 6, 9, 0, 0, 0), (6, .iload 9, 8, 9, 0, 0, 0), (8, .iconst 4, 9, 0, 0, 4, 0), (9, .if_icmp .ge 63, 12, 72, 0, 0, 0), (12, .iload 8, 14, 8, 0, 0, 0), (14, .ifCond .eq 49, 17, 63, 0, 0, 0), (17, .aload_n 0, 18, 0, 0, 0, 0), (18, .getfield 62, 21, 0, 0, 0, 0), (21, .iload 9, 23, 9, 0, 0, 0), (23, .laload, 24, 0, 0, 0, 0), (24, .lload_n 1, 25, 1, 0, 0, 0), (25, .lmul, 26, 0, 0, 0, 0), (26, .aload_n 0, 27, 0, 0, 0, 0), (27, .getfield 66, 30, 0, 0, 0, 0), (30, .iload 9, 32, 9, 0, 0, 0), (32, .laload, 33, 0, 0, 0, 0), (33, .lload_n 3, 34, 3, 0, 0, 0), (34, .lmul, 35, 0, 0, 0, 0), (35, .ladd, 36, 0, 0, 0, 0), (36, .iload 7, 38, 7, 0, 0, 0), (38, .ifCond .eq 7, 41, 45, 0, 0, 0), (41, .lconst 0, 42, 0, 0, 0, 0), (42, .goto 13, 45, 55, 0, 0, 0), (45, .aload_n 0, 46, 0, 0, 0, 0), (46, .getfield 69, 49, 0, 0, 0, 0), (49, .iload 9, 51, 9, 0, 0, 0), (51, .laload, 52, 0, 0, 0, 0), (52, .lload 5, 54, 5, 0, 0, 0), (54, .lmul, 55, 0, 0, 0, 0), (55, .lcmp, 56, 0, 0, 0, 0), (56, .ifCond .lt 7, 59, 63, 0, 0, 0), (59, .iconst 1, 60, 0, 0, 1, 0), (60, .goto 4, 63, 64, 0, 0, 0), (63, .iconst 0, 64, 0, 0, 0, 0), (64, .istore 8, 66, 8, 0, 0, 0), (66, .iinc 9 1, 69, 9, 0, 1, 0), (69, .goto (-63), 72, 6, 0, 0, 0), (72, .iload 8, 74, 8, 0, 0, 0), (74, .ireturn, 75, 0, 0, 0, 0)]
def s_X7_isWithin : List (Int32 × Nat) := []
theorem r_X7_isWithin : ∀ q ∈ k_X7_isWithin, rz_row yX7_isWithin.cls cX7_isWithin 10 (some .boolean) true s_X7_isWithin q.1 q.2 := rz_rows (by decide +kernel)
theorem m_X7_isWithin : rz_MW yX7_isWithin cX7_isWithin 10 (some .boolean) 4 := ⟨bw_t 864 (by decide +kernel) rfl, bw_t 9 (by decide +kernel) rfl, by decide +kernel, by decide +kernel, by decide +kernel⟩
theorem i_X7_isWithin : Cond.instanceMethod yX7_isWithin ∈ bw := bw_t 863 (by decide +kernel) rfl
theorem v_X7_isWithin : Cond.selects yX7_isWithin.cls yX7_isWithin yX7_isWithin ∈ bw := bw_p 56 (by decide +kernel) rfl
def k_X7_lastPlan : List (Nat × rz_I) := [(0, .iconst (-1), 1, 0, 0, (-1), 0), (1, .istore_n 3, 2, 3, 0, 0, 0), (2, .iconst 0, 3, 0, 0, 0, 0), (3, .istore 4, 5, 4, 0, 0, 0), (5, .iload 4, 7, 4, 0, 0, 0), (7, .aload_n 0, 8, 0, 0, 0, 0), (8, .getfield 193, 11, 0, 0, 0, 0), (11, .if_icmp .ge 34, 14, 45, 0, 0, 0), (14, .aload_n 0, 15, 0, 0, 0, 0), (15, .iload 4, 17, 4, 0, 0, 0), (17, .iconst 0, 18, 0, 0, 0, 0), (18, .invokevirtual 196, 21, 0, 0, 0, 0), (21, .iload_n 1, 22, 1, 0, 0, 0), (22, .if_icmp .ne 17, 25, 39, 0, 0, 0), (25, .aload_n 0, 26, 0, 0, 0, 0), (26, .iload 4, 28, 4, 0, 0, 0), (28, .iconst 1, 29, 0, 0, 1, 0), (29, .invokevirtual 196, 32, 0, 0, 0, 0), (32, .iload_n 2, 33, 2, 0, 0, 0), (33, .if_icmp .gt 6, 36, 39, 0, 0, 0), (36, .iload 4, 38, 4, 0, 0, 0), (38, .istore_n 3, 39, 3, 0, 0, 0), (39, .iinc 4 1, 42, 4, 0, 1, 0), (42, .goto (-37), 45, 5, 0, 0, 0), (45, .iload_n 3, 46, 3, 0, 0, 0), (46, .ireturn, 47, 0, 0, 0, 0)]
def s_X7_lastPlan : List (Int32 × Nat) := []
theorem r_X7_lastPlan : ∀ q ∈ k_X7_lastPlan, rz_row yX7_lastPlan.cls cX7_lastPlan 5 (some .int) false s_X7_lastPlan q.1 q.2 := rz_rows (by decide +kernel)
theorem m_X7_lastPlan : rz_MW yX7_lastPlan cX7_lastPlan 5 (some .int) 2 := ⟨bw_t 932 (by decide +kernel) rfl, bw_t 9 (by decide +kernel) rfl, by decide +kernel, by decide +kernel, by decide +kernel⟩
theorem i_X7_lastPlan : Cond.instanceMethod yX7_lastPlan ∈ bw := bw_t 931 (by decide +kernel) rfl
theorem v_X7_lastPlan : Cond.selects yX7_lastPlan.cls yX7_lastPlan yX7_lastPlan ∈ bw := bw_p 61 (by decide +kernel) rfl
def k_X7_latest : List (Nat × rz_I) := [(0, .aload_n 0, 1, 0, 0, 0, 0), (1, .getfield 175, 4, 0, 0, 0, 0), (4, .iconst 1, 5, 0, 0, 1, 0), (5, .isub, 6, 0, 0, 0, 0), (6, .istore_n 2, 7, 2, 0, 0, 0), (7, .aload_n 0, 8, 0, 0, 0, 0), (8, .getfield 41, 11, 0, 0, 0, 0), (11, .iload_n 2, 12, 2, 0, 0, 0), (12, .iaload, 13, 0, 0, 0, 0), (13, .iload_n 1, 14, 1, 0, 0, 0), (14, .if_icmp .eq 9, 17, 23, 0, 0, 0), (17, .iinc 2 (-1), 20, 2, 0, (-1), 0), (20, .goto (-13), 23, 7, 0, 0, 0), (23, .iload_n 2, 24, 2, 0, 0, 0), (24, .ireturn, 25, 0, 0, 0, 0)]
def s_X7_latest : List (Int32 × Nat) := []
theorem r_X7_latest : ∀ q ∈ k_X7_latest, rz_row yX7_latest.cls cX7_latest 3 (some .int) false s_X7_latest q.1 q.2 := rz_rows (by decide +kernel)
theorem m_X7_latest : rz_MW yX7_latest cX7_latest 3 (some .int) 1 := ⟨bw_t 900 (by decide +kernel) rfl, bw_t 9 (by decide +kernel) rfl, by decide +kernel, by decide +kernel, by decide +kernel⟩
theorem i_X7_latest : Cond.instanceMethod yX7_latest ∈ bw := bw_t 899 (by decide +kernel) rfl
theorem v_X7_latest : Cond.selects yX7_latest.cls yX7_latest yX7_latest ∈ bw := bw_p 59 (by decide +kernel) rfl
def k_X7_log : List (Nat × rz_I) := [(0, .aload_n 0, 1, 0, 0, 0, 0), (1, .iconst 0, 2, 0, 0, 0, 0), (2, .putfield 84, 5, 0, 0, 0, 0), (5, .iload_n 1, 6, 1, 0, 0, 0), (6, .ifCond .lt 18, 9, 24, 0, 0, 0), (9, .iload_n 1, 10, 1, 0, 0, 0), (10, .aload_n 0, 11, 0, 0, 0, 0), (11, .getfield 210, 14, 0, 0, 0, 0), (14, .if_icmp .ge 10, 17, 24, 0, 0, 0), (17, .iload_n 1, 18, 1, 0, 0, 0), (18, .sipush 300, 21, 0, 0, 300, 0), (21, .if_icmp .lt 5, 24, 26, 0, 0, 0), (24, .iconst (-1), 25, 0, 0, (-1), 0), (25, .ireturn, 26, 0, 0, 0, 0), (26, .iload_n 2, 27, 2, 0, 0, 0), (27, .ifCond .ne 12, 30, 39, 0, 0, 0), (30, .aload_n 0, 31, 0, 0, 0, 0), (31, .getfield 53, 34, 0, 0, 0, 0), (34, .iload_n 1, 35, 1, 0, 0, 0), (35, .iaload, 36, 0, 0, 0, 0), (36, .goto 32, 39, 68, 0, 0, 0), (39, .iload_n 2, 40, 2, 0, 0, 0), (40, .iconst 1, 41, 0, 0, 1, 0), (41, .if_icmp .ne 12, 44, 53, 0, 0, 0), (44, .aload_n 0, 45, 0, 0, 0, 0), (45, .getfield 56, 48, 0, 0, 0, 0), (48, .iload_n 1, 49, 1, 0, 0, 0), (49, .iaload, 50, 0, 0, 0, 0), (50, .goto 18, 53, 68, 0, 0, 0), (53, .iload_n 2, 54, 2, 0, 0, 0), (54, .iconst 2, 55, 0, 0, 2, 0), (55, .if_icmp .ne 12, 58, 67, 0, 0, 0), (58, .aload_n 0, 59, 0, 0, 0, 0), (59, .getfield 59, 62, 0, 0, 0, 0), (62, .iload_n 1, 63, 1, 0, 0, 0), (63, .iaload, 64, 0, 0, 0, 0), (64, .goto 4, 67, 68, 0, 0, 0), (67, .iconst (-1), 68, 0, 0, (-1), 0), (68, .ireturn, 69, 0, 0, 0, 0)]
def s_X7_log : List (Int32 × Nat) := []
theorem r_X7_log : ∀ q ∈ k_X7_log, rz_row yX7_log.cls cX7_log 3 (some .int) false s_X7_log q.1 q.2 := rz_rows (by decide +kernel)
theorem m_X7_log : rz_MW yX7_log cX7_log 3 (some .int) 2 := ⟨bw_t 952 (by decide +kernel) rfl, bw_t 9 (by decide +kernel) rfl, by decide +kernel, by decide +kernel, by decide +kernel⟩
theorem i_X7_log : Cond.instanceMethod yX7_log ∈ bw := bw_t 950 (by decide +kernel) rfl
theorem v_X7_log : Cond.selects yX7_log.cls yX7_log yX7_log ∈ bw := bw_t 951 (by decide +kernel) rfl
def k_X7_manned : List (Nat × rz_I) := [(0, .aload_n 0, 1, 0, 0, 0, 0), (1, .iconst 0, 2, 0, 0, 0, 0), (2, .putfield 84, 5, 0, 0, 0, 0), (5, .iload_n 1, 6, 1, 0, 0, 0), (6, .iconst 0, 7, 0, 0, 0, 0), (7, .sipush 333, 10, 0, 0, 333, 0), (10, .invokestatic 87, 13, 0, 0, 0, 0), (13, .ifCond .ne 5, 16, 18, 0, 0, 0), (16, .iconst (-1), 17, 0, 0, (-1), 0), (17, .ireturn, 18, 0, 0, 0, 0), (18, .aload_n 0, 19, 0, 0, 0, 0), (19, .iconst 1, 20, 0, 0, 1, 0), (20, .aload_n 0, 21, 0, 0, 0, 0), (21, .getfield 91, 24, 0, 0, 0, 0), (24, .ishl, 25, 0, 0, 0, 0), (25, .iconst 1, 26, 0, 0, 1, 0), (26, .isub, 27, 0, 0, 0, 0), (27, .iload_n 1, 28, 1, 0, 0, 0), (28, .invokevirtual 105, 31, 0, 0, 0, 0), (31, .istore_n 2, 32, 2, 0, 0, 0), (32, .iconst 1, 33, 0, 0, 1, 0), (33, .aload_n 0, 34, 0, 0, 0, 0), (34, .getfield 91, 37, 0, 0, 0, 0), (37, .ishl, 38, 0, 0, 0, 0), (38, .iconst 1, 39, 0, 0, 1, 0), (39, .isub, 40, 0, 0, 0, 0), (40, .istore_n 3, 41, 3, 0, 0, 0), (41, .iconst 1, 42, 0, 0, 1, 0), (42, .aload_n 0, 43, 0, 0, 0, 0), (43, .getfield 91, 46, 0, 0, 0, 0), (46, .ishl, 47, 0, 0, 0, 0), (47, .iconst 1, 48, 0, 0, 1, 0), (48, .isub, 49, 0, 0, 0, 0), (49, .istore 4, 51, 4, 0, 0, 0), (51, .iload 4, 53, 4, 0, 0, 0), (53, .ifCond .lt 35, 56, 88, 0, 0, 0), (56, .aload_n 0, 57, 0, 0, 0, 0), (57, .iload 4, 59, 4, 0, 0, 0), (59, .iload_n 1, 60, 1, 0, 0, 0), (60, .invokevirtual 105, 63, 0, 0, 0, 0), (63, .iload_n 2, 64, 2, 0, 0, 0), (64, .if_icmp .ne 18, 67, 82, 0, 0, 0), (67, .iload 4, 69, 4, 0, 0, 0), (69, .invokestatic 109, 72, 0, 0, 0, 0), (72, .iload_n 3, 73, 3, 0, 0, 0), (73, .invokestatic 109, 76, 0, 0, 0, 0), (76, .if_icmp .gt 6, 79, 82, 0, 0, 0), (79, .iload 4, 81, 4, 0, 0, 0), (81, .istore_n 3, 82, 3, 0, 0, 0), (82, .iinc 4 (-1), 85, 4, 0, (-1), 0), (85, .goto (-34), 88, 51, 0, 0, 0), (88, .iload_n 3, 89, 3, 0, 0, 0), (89, .ireturn, 90, 0, 0, 0, 0)]
def s_X7_manned : List (Int32 × Nat) := []
theorem r_X7_manned : ∀ q ∈ k_X7_manned, rz_row yX7_manned.cls cX7_manned 5 (some .int) false s_X7_manned q.1 q.2 := rz_rows (by decide +kernel)
theorem m_X7_manned : rz_MW yX7_manned cX7_manned 5 (some .int) 1 := ⟨bw_t 820 (by decide +kernel) rfl, bw_t 9 (by decide +kernel) rfl, by decide +kernel, by decide +kernel, by decide +kernel⟩
theorem i_X7_manned : Cond.instanceMethod yX7_manned ∈ bw := bw_t 818 (by decide +kernel) rfl
theorem v_X7_manned : Cond.selects yX7_manned.cls yX7_manned yX7_manned ∈ bw := bw_t 819 (by decide +kernel) rfl
def k_X7_meets : List (Nat × rz_I) := [(0, .aload_n 0, 1, 0, 0, 0, 0), (1, .iload_n 1, 2, 1, 0, 0, 0), (2, .iload_n 2, 3, 2, 0, 0, 0), (3, .invokevirtual 124, 6, 0, 0, 0, 0), (6, .ifCond .ne 5, 9, 11, 0, 0, 0), (9, .iconst (-1), 10, 0, 0, (-1), 0), (10, .ireturn, 11, 0, 0, 0, 0), (11, .aload_n 0, 12, 0, 0, 0, 0), (12, .iload_n 1, 13, 1, 0, 0, 0), (13, .iconst 0, 14, 0, 0, 0, 0), (14, .invokevirtual 127, 17, 0, 0, 0, 0), (17, .aload_n 0, 18, 0, 0, 0, 0), (18, .iload_n 2, 19, 2, 0, 0, 0), (19, .iconst 2, 20, 0, 0, 2, 0), (20, .invokevirtual 127, 23, 0, 0, 0, 0), (23, .aload_n 0, 24, 0, 0, 0, 0), (24, .iconst 0, 25, 0, 0, 0, 0), (25, .putfield 131, 28, 0, 0, 0, 0), (28, .iconst 0, 29, 0, 0, 0, 0), (29, .istore_n 3, 30, 3, 0, 0, 0), (30, .iload_n 3, 31, 3, 0, 0, 0), (31, .iconst 4, 32, 0, 0, 4, 0), (32, .if_icmp .ge 33, 35, 65, 0, 0, 0), (35, .iload_n 3, 36, 3, 0, 0, 0), (36, .iconst 1, 37, 0, 0, 1, 0), (37, .iadd, 38, 0, 0, 0, 0), (38, .istore 4, 40, 4, 0, 0, 0), (40, .iload 4, 42, 4, 0, 0, 0), (42, .iconst 4, 43, 0, 0, 4, 0), (43, .if_icmp .ge 16, 46, 59, 0, 0, 0), (46, .aload_n 0, 47, 0, 0, 0, 0), (47, .iload_n 3, 48, 3, 0, 0, 0), (48, .iload 4, 50, 4, 0, 0, 0), (50, .invokevirtual 134, 53, 0, 0, 0, 0), (53, .iinc 4 1, 56, 4, 0, 1, 0), (56, .goto (-16), 59, 40, 0, 0, 0), (59, .iinc 3 1, 62, 3, 0, 1, 0), (62, .goto (-32), 65, 30, 0, 0, 0), (65, .aload_n 0, 66, 0, 0, 0, 0), (66, .getfield 131, 69, 0, 0, 0, 0), (69, .ifCond .ne 5, 72, 74, 0, 0, 0), (72, .iconst 0, 73, 0, 0, 0, 0), (73, .ireturn, 74, 0, 0, 0, 0), (74, .iconst 0, 75, 0, 0, 0, 0), (75, .istore_n 3, 76, 3, 0, 0, 0), (76, .iload_n 3, 77, 3, 0, 0, 0), (77, .iconst 2, 78, 0, 0, 2, 0), (78, .if_icmp .ge 75, 81, 153, 0, 0, 0), (81, .iconst 0, 82, 0, 0, 0, 0), (82, .istore 4, 84, 4, 0, 0, 0), (84, .iload 4, 86, 4, 0, 0, 0), (86, .iconst 2, 87, 0, 0, 2, 0), (87, .if_icmp .ge 60, 90, 147, 0, 0, 0), (90, .aload_n 0, 91, 0, 0, 0, 0), (91, .aload_n 0, 92, 0, 0, 0, 0), (92, .iload_n 3, 93, 3, 0, 0, 0), (93, .ifCond .ne 7, 96, 100, 0, 0, 0), (96, .iload_n 1, 97, 1, 0, 0, 0), (97, .goto 4, 100, 101, 0, 0, 0), (100, .iload_n 2, 101, 2, 0, 0, 0), (101, .iconst 2, 102, 0, 0, 2, 0), (102, .iconst 2, 103, 0, 0, 2, 0), (103, .iload 4, 105, 4, 0, 0, 0), (105, .imul, 106, 0, 0, 0, 0), (106, .iadd, 107, 0, 0, 0, 0), (107, .invokevirtual 119, 110, 0, 0, 0, 0), (110, .i2l, 111, 0, 0, 0, 0), (111, .aload_n 0, 112, 0, 0, 0, 0), (112, .iload_n 3, 113, 3, 0, 0, 0), (113, .ifCond .ne 7, 116, 120, 0, 0, 0), (116, .iload_n 1, 117, 1, 0, 0, 0), (117, .goto 4, 120, 121, 0, 0, 0), (120, .iload_n 2, 121, 2, 0, 0, 0), (121, .iconst 3, 122, 0, 0, 3, 0), (122, .iconst 2, 123, 0, 0, 2, 0), (123, .iload 4, 125, 4, 0, 0, 0), (125, .imul, 126, 0, 0, 0, 0), (126, .iadd, 127, 0, 0, 0, 0), (127, .invokevirtual 119, 130, 0, 0, 0, 0), (130, .i2l, 131, 0, 0, 0, 0), (131, .lconst 1, 132, 0, 0, 0, 1), (132, .iconst 1, 133, 0, 0, 1, 0), (133, .invokevirtual 137, 136, 0, 0, 0, 0), (136, .ifCond .eq 5, 139, 141, 0, 0, 0), (139, .iconst 2, 140, 0, 0, 2, 0), (140, .ireturn, 141, 0, 0, 0, 0), (141, .iinc 4 1, 144, 4, 0, 1, 0), (144, .goto (-60), 147, 84, 0, 0, 0), (147, .iinc 3 1, 150, 3, 0, 1, 0), (150, .goto (-74), 153, 76, 0, 0, 0), (153, .iconst 1, 154, 0, 0, 1, 0), (154, .ireturn, 155, 0, 0, 0, 0)]
def s_X7_meets : List (Int32 × Nat) := []
theorem r_X7_meets : ∀ q ∈ k_X7_meets, rz_row yX7_meets.cls cX7_meets 5 (some .int) false s_X7_meets q.1 q.2 := rz_rows (by decide +kernel)
theorem m_X7_meets : rz_MW yX7_meets cX7_meets 5 (some .int) 2 := ⟨bw_t 843 (by decide +kernel) rfl, bw_t 9 (by decide +kernel) rfl, by decide +kernel, by decide +kernel, by decide +kernel⟩
theorem i_X7_meets : Cond.instanceMethod yX7_meets ∈ bw := bw_t 842 (by decide +kernel) rfl
theorem v_X7_meets : Cond.selects yX7_meets.cls yX7_meets yX7_meets ∈ bw := bw_p 51 (by decide +kernel) rfl
def k_X7_of : List (Nat × rz_I) := [(0, .aload_n 0, 1, 0, 0, 0, 0), (1, .getfield 32, 4, 0, 0, 0, 0), (4, .bipush 6, 6, 0, 0, 6, 0), (6, .iload_n 1, 7, 1, 0, 0, 0), (7, .imul, 8, 0, 0, 0, 0), (8, .iload_n 2, 9, 2, 0, 0, 0), (9, .iadd, 10, 0, 0, 0, 0), (10, .iaload, 11, 0, 0, 0, 0), (11, .ireturn, 12, 0, 0, 0, 0)]
def s_X7_of : List (Int32 × Nat) := []
theorem r_X7_of : ∀ q ∈ k_X7_of, rz_row yX7_of.cls cX7_of 3 (some .int) false s_X7_of q.1 q.2 := rz_rows (by decide +kernel)
theorem m_X7_of : rz_MW yX7_of cX7_of 3 (some .int) 2 := ⟨bw_t 851 (by decide +kernel) rfl, bw_t 9 (by decide +kernel) rfl, by decide +kernel, by decide +kernel, by decide +kernel⟩
theorem i_X7_of : Cond.instanceMethod yX7_of ∈ bw := bw_t 850 (by decide +kernel) rfl
theorem v_X7_of : Cond.selects yX7_of.cls yX7_of yX7_of ∈ bw := bw_p 53 (by decide +kernel) rfl
def k_X7_ofPlan : List (Nat × rz_I) := [(0, .aload_n 0, 1, 0, 0, 0, 0), (1, .getfield 44, 4, 0, 0, 0, 0), (4, .iconst 5, 5, 0, 0, 5, 0), (5, .iload_n 1, 6, 1, 0, 0, 0), (6, .imul, 7, 0, 0, 0, 0), (7, .iload_n 2, 8, 2, 0, 0, 0), (8, .iadd, 9, 0, 0, 0, 0), (9, .iaload, 10, 0, 0, 0, 0), (10, .ireturn, 11, 0, 0, 0, 0)]
def s_X7_ofPlan : List (Int32 × Nat) := []
theorem r_X7_ofPlan : ∀ q ∈ k_X7_ofPlan, rz_row yX7_ofPlan.cls cX7_ofPlan 3 (some .int) false s_X7_ofPlan q.1 q.2 := rz_rows (by decide +kernel)
theorem m_X7_ofPlan : rz_MW yX7_ofPlan cX7_ofPlan 3 (some .int) 2 := ⟨bw_t 936 (by decide +kernel) rfl, bw_t 9 (by decide +kernel) rfl, by decide +kernel, by decide +kernel, by decide +kernel⟩
theorem i_X7_ofPlan : Cond.instanceMethod yX7_ofPlan ∈ bw := bw_t 935 (by decide +kernel) rfl
theorem v_X7_ofPlan : Cond.selects yX7_ofPlan.cls yX7_ofPlan yX7_ofPlan ∈ bw := bw_p 62 (by decide +kernel) rfl
def k_X7_open : List (Nat × rz_I) := [(0, .aload_n 0, 1, 0, 0, 0, 0), (1, .iconst 0, 2, 0, 0, 0, 0), (2, .putfield 84, 5, 0, 0, 0, 0), (5, .iload_n 1, 6, 1, 0, 0, 0), (6, .iconst 0, 7, 0, 0, 0, 0), (7, .sipush 333, 10, 0, 0, 333, 0), (10, .invokestatic 87, 13, 0, 0, 0, 0), (13, .ifCond .eq 30, 16, 43, 0, 0, 0), (16, .iconst 1, 17, 0, 0, 1, 0), (17, .aload_n 0, 18, 0, 0, 0, 0), (18, .getfield 98, 21, 0, 0, 0, 0), (21, .ishl, 22, 0, 0, 0, 0), (22, .iconst 1, 23, 0, 0, 1, 0), (23, .isub, 24, 0, 0, 0, 0), (24, .aload_n 0, 25, 0, 0, 0, 0), (25, .iconst 1, 26, 0, 0, 1, 0), (26, .aload_n 0, 27, 0, 0, 0, 0), (27, .getfield 91, 30, 0, 0, 0, 0), (30, .ishl, 31, 0, 0, 0, 0), (31, .iconst 1, 32, 0, 0, 1, 0), (32, .isub, 33, 0, 0, 0, 0), (33, .iload_n 1, 34, 1, 0, 0, 0), (34, .invokevirtual 105, 37, 0, 0, 0, 0), (37, .iconst (-1), 38, 0, 0, (-1), 0), (38, .ixor, 39, 0, 0, 0, 0), (39, .iand, 40, 0, 0, 0, 0), (40, .goto 4, 43, 44, 0, 0, 0), (43, .iconst (-1), 44, 0, 0, (-1), 0), (44, .ireturn, 45, 0, 0, 0, 0)]
def s_X7_open : List (Int32 × Nat) := []
theorem r_X7_open : ∀ q ∈ k_X7_open, rz_row yX7_open.cls cX7_open 2 (some .int) false s_X7_open q.1 q.2 := rz_rows (by decide +kernel)
theorem m_X7_open : rz_MW yX7_open cX7_open 2 (some .int) 1 := ⟨bw_t 831 (by decide +kernel) rfl, bw_t 9 (by decide +kernel) rfl, by decide +kernel, by decide +kernel, by decide +kernel⟩
theorem i_X7_open : Cond.instanceMethod yX7_open ∈ bw := bw_t 829 (by decide +kernel) rfl
theorem v_X7_open : Cond.selects yX7_open.cls yX7_open yX7_open ∈ bw := bw_t 830 (by decide +kernel) rfl
def k_X7_overdue : List (Nat × rz_I) := [(0, .aload_n 0, 1, 0, 0, 0, 0), (1, .iload_n 1, 2, 1, 0, 0, 0), (2, .aload_n 0, 3, 0, 0, 0, 0), (3, .getfield 116, 6, 0, 0, 0, 0), (6, .invokevirtual 199, 9, 0, 0, 0, 0), (9, .istore_n 2, 10, 2, 0, 0, 0), (10, .aload_n 0, 11, 0, 0, 0, 0), (11, .getfield 116, 14, 0, 0, 0, 0), (14, .aload_n 0, 15, 0, 0, 0, 0), (15, .iload_n 2, 16, 2, 0, 0, 0), (16, .iconst 3, 17, 0, 0, 3, 0), (17, .invokevirtual 196, 20, 0, 0, 0, 0), (20, .aload_n 0, 21, 0, 0, 0, 0), (21, .iload_n 2, 22, 2, 0, 0, 0), (22, .iconst 4, 23, 0, 0, 4, 0), (23, .invokevirtual 196, 26, 0, 0, 0, 0), (26, .iadd, 27, 0, 0, 0, 0), (27, .iconst 1, 28, 0, 0, 1, 0), (28, .iadd, 29, 0, 0, 0, 0), (29, .isub, 30, 0, 0, 0, 0), (30, .istore_n 3, 31, 3, 0, 0, 0), (31, .iconst 0, 32, 0, 0, 0, 0), (32, .istore 4, 34, 4, 0, 0, 0), (34, .iload 4, 36, 4, 0, 0, 0), (36, .iconst 5, 37, 0, 0, 5, 0), (37, .if_icmp .ge 77, 40, 114, 0, 0, 0), (40, .aload_n 0, 41, 0, 0, 0, 0), (41, .getfield 50, 44, 0, 0, 0, 0), (44, .iload 4, 46, 4, 0, 0, 0), (46, .iaload, 47, 0, 0, 0, 0), (47, .iload_n 3, 48, 3, 0, 0, 0), (48, .if_icmp .eq 6, 51, 54, 0, 0, 0), (51, .goto 57, 54, 108, 0, 0, 0), (54, .aload_n 0, 55, 0, 0, 0, 0), (55, .getfield 210, 58, 0, 0, 0, 0), (58, .sipush 300, 61, 0, 0, 300, 0), (61, .if_icmp .ge 37, 64, 98, 0, 0, 0), (64, .aload_n 0, 65, 0, 0, 0, 0), (65, .getfield 53, 68, 0, 0, 0, 0), (68, .aload_n 0, 69, 0, 0, 0, 0), (69, .getfield 210, 72, 0, 0, 0, 0), (72, .iload_n 1, 73, 1, 0, 0, 0), (73, .iastore, 74, 0, 0, 0, 0), (74, .aload_n 0, 75, 0, 0, 0, 0), (75, .getfield 56, 78, 0, 0, 0, 0), (78, .aload_n 0, 79, 0, 0, 0, 0), (79, .getfield 210, 82, 0, 0, 0, 0), (82, .iload 4, 84, 4, 0, 0, 0), (84, .iastore, 85, 0, 0, 0, 0), (85, .aload_n 0, 86, 0, 0, 0, 0), (86, .getfield 59, 89, 0, 0, 0, 0), (89, .aload_n 0, 90, 0, 0, 0, 0), (90, .getfield 210, 93, 0, 0, 0, 0), (93, .aload_n 0, 94, 0, 0, 0, 0), (94, .getfield 116, 97, 0, 0, 0, 0), (97, .iastore, 98, 0, 0, 0, 0), (98, .aload_n 0, 99, 0, 0, 0, 0), (99, .dup, 100, 0, 0, 0, 0), (100, .getfield 210, 103, 0, 0, 0, 0), (103, .iconst 1, 104, 0, 0, 1, 0), (104, .iadd, 105, 0, 0, 0, 0), (105, .putfield 210, 108, 0, 0, 0, 0), (108, .iinc 4 1, 111, 4, 0, 1, 0), (111, .goto (-77), 114, 34, 0, 0, 0), (114, .return_, 115, 0, 0, 0, 0)]
def s_X7_overdue : List (Int32 × Nat) := []
theorem r_X7_overdue : ∀ q ∈ k_X7_overdue, rz_row yX7_overdue.cls cX7_overdue 5 none false s_X7_overdue q.1 q.2 := rz_rows (by decide +kernel)
theorem m_X7_overdue : rz_MW yX7_overdue cX7_overdue 5 none 1 := ⟨bw_t 948 (by decide +kernel) rfl, bw_t 9 (by decide +kernel) rfl, by decide +kernel, by decide +kernel, by decide +kernel⟩
theorem i_X7_overdue : Cond.instanceMethod yX7_overdue ∈ bw := bw_t 947 (by decide +kernel) rfl
theorem v_X7_overdue : Cond.selects yX7_overdue.cls yX7_overdue yX7_overdue ∈ bw := bw_p 63 (by decide +kernel) rfl
def k_X7_plan : List (Nat × rz_I) := [(0, .aload_n 0, 1, 0, 0, 0, 0), (1, .iconst 0, 2, 0, 0, 0, 0), (2, .putfield 84, 5, 0, 0, 0, 0), (5, .iload_n 1, 6, 1, 0, 0, 0), (6, .iconst 0, 7, 0, 0, 0, 0), (7, .aload_n 0, 8, 0, 0, 0, 0), (8, .getfield 188, 11, 0, 0, 0, 0), (11, .bipush 29, 13, 0, 0, 29, 0), (13, .invokestatic 191, 16, 0, 0, 0, 0), (16, .invokestatic 87, 19, 0, 0, 0, 0), (19, .ifCond .eq 64, 22, 83, 0, 0, 0), (22, .iload_n 2, 23, 2, 0, 0, 0), (23, .iconst 0, 24, 0, 0, 0, 0), (24, .sipush 20000, 27, 0, 0, 20000, 0), (27, .invokestatic 87, 30, 0, 0, 0, 0), (30, .ifCond .eq 53, 33, 83, 0, 0, 0), (33, .iload_n 3, 34, 3, 0, 0, 0), (34, .iload_n 2, 35, 2, 0, 0, 0), (35, .sipush 20000, 38, 0, 0, 20000, 0), (38, .invokestatic 87, 41, 0, 0, 0, 0), (41, .ifCond .eq 42, 44, 83, 0, 0, 0), (44, .iload 4, 46, 4, 0, 0, 0), (46, .iconst 0, 47, 0, 0, 0, 0), (47, .sipush 600, 50, 0, 0, 600, 0), (50, .invokestatic 87, 53, 0, 0, 0, 0), (53, .ifCond .eq 30, 56, 83, 0, 0, 0), (56, .aload_n 0, 57, 0, 0, 0, 0), (57, .getfield 193, 60, 0, 0, 0, 0), (60, .bipush 100, 62, 0, 0, 100, 0), (62, .if_icmp .eq 21, 65, 83, 0, 0, 0), (65, .iload_n 1, 66, 1, 0, 0, 0), (66, .aload_n 0, 67, 0, 0, 0, 0), (67, .getfield 188, 70, 0, 0, 0, 0), (70, .if_icmp .ge 15, 73, 85, 0, 0, 0), (73, .aload_n 0, 74, 0, 0, 0, 0), (74, .getfield 47, 77, 0, 0, 0, 0), (77, .iload_n 1, 78, 1, 0, 0, 0), (78, .iaload, 79, 0, 0, 0, 0), (79, .iconst (-1), 80, 0, 0, (-1), 0), (80, .if_icmp .eq 5, 83, 85, 0, 0, 0), (83, .iconst (-1), 84, 0, 0, (-1), 0), (84, .ireturn, 85, 0, 0, 0, 0), (85, .iload_n 1, 86, 1, 0, 0, 0), (86, .aload_n 0, 87, 0, 0, 0, 0), (87, .getfield 188, 90, 0, 0, 0, 0), (90, .if_icmp .ne 23, 93, 113, 0, 0, 0), (93, .aload_n 0, 94, 0, 0, 0, 0), (94, .getfield 47, 97, 0, 0, 0, 0), (97, .aload_n 0, 98, 0, 0, 0, 0), (98, .getfield 188, 101, 0, 0, 0, 0), (101, .iconst (-1), 102, 0, 0, (-1), 0), (102, .iastore, 103, 0, 0, 0, 0), (103, .aload_n 0, 104, 0, 0, 0, 0), (104, .dup, 105, 0, 0, 0, 0), (105, .getfield 188, 108, 0, 0, 0, 0), (108, .iconst 1, 109, 0, 0, 1, 0), (109, .iadd, 110, 0, 0, 0, 0), (110, .putfield 188, 113, 0, 0, 0, 0), (113, .iconst 5, 114, 0, 0, 5, 0), (114, .newarray .int, 116, 900, 5, 5, 0), (116, .dup, 117, 0, 0, 0, 0), (117, .iconst 0, 118, 0, 0, 0, 0), (118, .iload_n 1, 119, 1, 0, 0, 0), (119, .iastore, 120, 0, 0, 0, 0), (120, .dup, 121, 0, 0, 0, 0), (121, .iconst 1, 122, 0, 0, 1, 0), (122, .aload_n 0, 123, 0, 0, 0, 0), (123, .getfield 116, 126, 0, 0, 0, 0), (126, .iastore, 127, 0, 0, 0, 0), (127, .dup, 128, 0, 0, 0, 0), (128, .iconst 2, 129, 0, 0, 2, 0), (129, .iload_n 2, 130, 2, 0, 0, 0), (130, .iastore, 131, 0, 0, 0, 0), (131, .dup, 132, 0, 0, 0, 0), (132, .iconst 3, 133, 0, 0, 3, 0), (133, .iload_n 3, 134, 3, 0, 0, 0), (134, .iastore, 135, 0, 0, 0, 0), (135, .dup, 136, 0, 0, 0, 0), (136, .iconst 4, 137, 0, 0, 4, 0), (137, .iload 4, 139, 4, 0, 0, 0), (139, .iastore, 140, 0, 0, 0, 0), (140, .astore 5, 142, 5, 0, 0, 0), (142, .iconst 0, 143, 0, 0, 0, 0), (143, .istore 6, 145, 6, 0, 0, 0), (145, .iload 6, 147, 6, 0, 0, 0), (147, .iconst 5, 148, 0, 0, 5, 0), (148, .if_icmp .ge 28, 151, 176, 0, 0, 0), (151, .aload_n 0, 152, 0, 0, 0, 0), (152, .getfield 44, 155, 0, 0, 0, 0), (155, .iconst 5, 156, 0, 0, 5, 0), (156, .aload_n 0, 157, 0, 0, 0, 0), (157, .getfield 193, 160, 0, 0, 0, 0), (160, .imul, 161, 0, 0, 0, 0), (161, .iload 6, 163, 6, 0, 0, 0), (163, .iadd, 164, 0, 0, 0, 0), (164, .aload 5, 166, 5, 0, 0, 0), (166, .iload 6, 168, 6, 0, 0, 0), (168, .iaload, 169, 0, 0, 0, 0), (169, .iastore, 170, 0, 0, 0, 0), (170, .iinc 6 1, 173, 6, 0, 1, 0), (173, .goto (-28), 176, 145, 0, 0, 0), (176, .aload_n 0, 177, 0, 0, 0, 0), (177, .dup, 178, 0, 0, 0, 0), (178, .getfield 193, 181, 0, 0, 0, 0), (181, .iconst 1, 182, 0, 0, 1, 0), (182, .iadd, 183, 0, 0, 0, 0), (183, .putfield 193, 186, 0, 0, 0, 0), (186, .iload_n 1, 187, 1, 0, 0, 0), (187, .ireturn, 188, 0, 0, 0, 0)]
def s_X7_plan : List (Int32 × Nat) := []
theorem r_X7_plan : ∀ q ∈ k_X7_plan, rz_row yX7_plan.cls cX7_plan 7 (some .int) false s_X7_plan q.1 q.2 := rz_rows (by decide +kernel)
theorem m_X7_plan : rz_MW yX7_plan cX7_plan 7 (some .int) 4 := ⟨bw_t 915 (by decide +kernel) rfl, bw_t 9 (by decide +kernel) rfl, by decide +kernel, by decide +kernel, by decide +kernel⟩
theorem i_X7_plan : Cond.instanceMethod yX7_plan ∈ bw := bw_t 913 (by decide +kernel) rfl
theorem v_X7_plan : Cond.selects yX7_plan.cls yX7_plan yX7_plan ∈ bw := bw_t 914 (by decide +kernel) rfl
def k_X7_plot : List (Nat × rz_I) := [(0, .aload_n 0, 1, 0, 0, 0, 0), (1, .iconst 0, 2, 0, 0, 0, 0), (2, .putfield 84, 5, 0, 0, 0, 0), (5, .aload_n 0, 6, 0, 0, 0, 0), (6, .iload_n 1, 7, 1, 0, 0, 0), (7, .iload_n 2, 8, 2, 0, 0, 0), (8, .invokevirtual 150, 11, 0, 0, 0, 0), (11, .ireturn, 12, 0, 0, 0, 0)]
def s_X7_plot : List (Int32 × Nat) := []
theorem r_X7_plot : ∀ q ∈ k_X7_plot, rz_row yX7_plot.cls cX7_plot 3 (some .int) false s_X7_plot q.1 q.2 := rz_rows (by decide +kernel)
theorem m_X7_plot : rz_MW yX7_plot cX7_plot 3 (some .int) 2 := ⟨bw_t 839 (by decide +kernel) rfl, bw_t 9 (by decide +kernel) rfl, by decide +kernel, by decide +kernel, by decide +kernel⟩
theorem i_X7_plot : Cond.instanceMethod yX7_plot ∈ bw := bw_t 837 (by decide +kernel) rfl
theorem v_X7_plot : Cond.selects yX7_plot.cls yX7_plot yX7_plot ∈ bw := bw_t 838 (by decide +kernel) rfl
def k_X7_plotted : List (Nat × rz_I) := [(0, .aload_n 0, 1, 0, 0, 0, 0), (1, .iconst 0, 2, 0, 0, 0, 0), (2, .putfield 84, 5, 0, 0, 0, 0), (5, .aload_n 0, 6, 0, 0, 0, 0), (6, .iload_n 1, 7, 1, 0, 0, 0), (7, .iload_n 2, 8, 2, 0, 0, 0), (8, .invokevirtual 150, 11, 0, 0, 0, 0), (11, .iconst 1, 12, 0, 0, 1, 0), (12, .if_icmp .ne 12, 15, 24, 0, 0, 0), (15, .aload_n 0, 16, 0, 0, 0, 0), (16, .getfield 175, 19, 0, 0, 0, 0), (19, .bipush 60, 21, 0, 0, 60, 0), (21, .if_icmp .ne 5, 24, 26, 0, 0, 0), (24, .iconst (-1), 25, 0, 0, (-1), 0), (25, .ireturn, 26, 0, 0, 0, 0), (26, .iconst 0, 27, 0, 0, 0, 0), (27, .istore_n 3, 28, 3, 0, 0, 0), (28, .iload_n 3, 29, 3, 0, 0, 0), (29, .aload_n 0, 30, 0, 0, 0, 0), (30, .getfield 175, 33, 0, 0, 0, 0), (33, .if_icmp .ge 51, 36, 84, 0, 0, 0), (36, .aload_n 0, 37, 0, 0, 0, 0), (37, .getfield 35, 40, 0, 0, 0, 0), (40, .iload_n 3, 41, 3, 0, 0, 0), (41, .iaload, 42, 0, 0, 0, 0), (42, .iload_n 1, 43, 1, 0, 0, 0), (43, .if_icmp .ne 13, 46, 56, 0, 0, 0), (46, .aload_n 0, 47, 0, 0, 0, 0), (47, .getfield 38, 50, 0, 0, 0, 0), (50, .iload_n 3, 51, 3, 0, 0, 0), (51, .iaload, 52, 0, 0, 0, 0), (52, .iload_n 2, 53, 2, 0, 0, 0), (53, .if_icmp .eq 23, 56, 76, 0, 0, 0), (56, .aload_n 0, 57, 0, 0, 0, 0), (57, .getfield 35, 60, 0, 0, 0, 0), (60, .iload_n 3, 61, 3, 0, 0, 0), (61, .iaload, 62, 0, 0, 0, 0), (62, .iload_n 2, 63, 2, 0, 0, 0), (63, .if_icmp .ne 15, 66, 78, 0, 0, 0), (66, .aload_n 0, 67, 0, 0, 0, 0), (67, .getfield 38, 70, 0, 0, 0, 0), (70, .iload_n 3, 71, 3, 0, 0, 0), (71, .iaload, 72, 0, 0, 0, 0), (72, .iload_n 1, 73, 1, 0, 0, 0), (73, .if_icmp .ne 5, 76, 78, 0, 0, 0), (76, .iconst (-1), 77, 0, 0, (-1), 0), (77, .ireturn, 78, 0, 0, 0, 0), (78, .iinc 3 1, 81, 3, 0, 1, 0), (81, .goto (-53), 84, 28, 0, 0, 0), (84, .aload_n 0, 85, 0, 0, 0, 0), (85, .iload_n 1, 86, 1, 0, 0, 0), (86, .iload_n 2, 87, 2, 0, 0, 0), (87, .invokevirtual 172, 90, 0, 0, 0, 0), (90, .aload_n 0, 91, 0, 0, 0, 0), (91, .getfield 81, 94, 0, 0, 0, 0), (94, .iconst 0, 95, 0, 0, 0, 0), (95, .laload, 96, 0, 0, 0, 0), (96, .lstore_n 3, 97, 3, 0, 0, 0), (97, .aload_n 0, 98, 0, 0, 0, 0), (98, .getfield 81, 101, 0, 0, 0, 0), (101, .iconst 1, 102, 0, 0, 1, 0), (102, .laload, 103, 0, 0, 0, 0), (103, .lstore 5, 105, 5, 0, 0, 0), (105, .aload_n 0, 106, 0, 0, 0, 0), (106, .getfield 81, 109, 0, 0, 0, 0), (109, .iconst 2, 110, 0, 0, 2, 0), (110, .laload, 111, 0, 0, 0, 0), (111, .lstore 7, 113, 7, 0, 0, 0), (113, .aload_n 0, 114, 0, 0, 0, 0), (114, .getfield 81, 117, 0, 0, 0, 0), (117, .iconst 3, 118, 0, 0, 3, 0), (118, .laload, 119, 0, 0, 0, 0), (119, .lstore 9, 121, 9, 0, 0, 0), (121, .aload_n 0, 122, 0, 0, 0, 0), (122, .iload_n 1, 123, 1, 0, 0, 0), (123, .iconst 1, 124, 0, 0, 1, 0), (124, .invokevirtual 119, 127, 0, 0, 0, 0), (127, .istore 11, 129, 11, 0, 0, 0), (129, .iconst (-1), 130, 0, 0, (-1), 0), (130, .istore 12, 132, 12, 0, 0, 0), (132, .lconst 0, 133, 0, 0, 0, 0), (133, .lstore 13, 135, 13, 0, 0, 0), (135, .iconst 0, 136, 0, 0, 0, 0), (136, .istore 15, 138, 15, 0, 0, 0), (138, .iload 15, 140, 15, 0, 0, 0), (140, .aload_n 0, 141, 0, 0, 0, 0), (141, .getfield 178, 144, 0, 0, 0, 0), (144, .if_icmp .ge 161, 147, 305, 0, 0, 0), (147, .aload_n 0, 148, 0, 0, 0, 0), (148, .iload 15, 150, 15, 0, 0, 0), (150, .invokevirtual 181, 153, 0, 0, 0, 0), (153, .istore 16, 155, 16, 0, 0, 0), (155, .iload 11, 157, 11, 0, 0, 0), (157, .aload_n 0, 158, 0, 0, 0, 0), (158, .aload_n 0, 159, 0, 0, 0, 0), (159, .getfield 35, 162, 0, 0, 0, 0), (162, .iload 16, 164, 16, 0, 0, 0), (164, .iaload, 165, 0, 0, 0, 0), (165, .iconst 1, 166, 0, 0, 1, 0), (166, .invokevirtual 119, 169, 0, 0, 0, 0), (169, .isub, 170, 0, 0, 0, 0), (170, .istore 17, 172, 17, 0, 0, 0), (172, .iload 17, 174, 17, 0, 0, 0), (174, .ifCond .gt 6, 177, 180, 0, 0, 0), (177, .goto 122, 180, 299, 0, 0, 0), (180, .aload_n 0, 181, 0, 0, 0, 0), (181, .aload_n 0, 182, 0, 0, 0, 0), (182, .getfield 35, 185, 0, 0, 0, 0), (185, .iload 16, 187, 16, 0, 0, 0), (187, .iaload, 188, 0, 0, 0, 0), (188, .aload_n 0, 189, 0, 0, 0, 0), (189, .getfield 38, 192, 0, 0, 0, 0), (192, .iload 16, 194, 16, 0, 0, 0), (194, .iaload, 195, 0, 0, 0, 0), (195, .invokevirtual 172, 198, 0, 0, 0, 0), (198, .lload_n 3, 199, 3, 0, 0, 0), (199, .lload 7, 201, 7, 0, 0, 0), (201, .aload_n 0, 202, 0, 0, 0, 0), (202, .getfield 81, 205, 0, 0, 0, 0), (205, .iconst 0, 206, 0, 0, 0, 0), (206, .laload, 207, 0, 0, 0, 0), (207, .aload_n 0, 208, 0, 0, 0, 0), (208, .getfield 81, 211, 0, 0, 0, 0), (211, .iconst 2, 212, 0, 0, 2, 0), (212, .laload, 213, 0, 0, 0, 0), (213, .invokestatic 184, 216, 0, 0, 0, 0), (216, .lstore 18, 218, 18, 0, 0, 0), (218, .lload 5, 220, 5, 0, 0, 0), (220, .lload 9, 222, 9, 0, 0, 0), (222, .aload_n 0, 223, 0, 0, 0, 0), (223, .getfield 81, 226, 0, 0, 0, 0), (226, .iconst 1, 227, 0, 0, 1, 0), (227, .laload, 228, 0, 0, 0, 0), (228, .aload_n 0, 229, 0, 0, 0, 0), (229, .getfield 81, 232, 0, 0, 0, 0), (232, .iconst 3, 233, 0, 0, 3, 0), (233, .laload, 234, 0, 0, 0, 0), (234, .invokestatic 184, 237, 0, 0, 0, 0), (237, .lstore 20, 239, 20, 0, 0, 0), (239, .lload 18, 241, 18, 0, 0, 0), (241, .lload 18, 243, 18, 0, 0, 0), (243, .lmul, 244, 0, 0, 0, 0), (244, .lload 20, 246, 20, 0, 0, 0), (246, .lload 20, 248, 20, 0, 0, 0), (248, .lmul, 249, 0, 0, 0, 0), (249, .ladd, 250, 0, 0, 0, 0), (250, .lstore 22, 252, 22, 0, 0, 0), (252, .aload_n 0, 253, 0, 0, 0, 0), (253, .getfield 28, 256, 0, 0, 0, 0), (256, .i2l, 257, 0, 0, 0, 0), (257, .iload 17, 259, 17, 0, 0, 0), (259, .i2l, 260, 0, 0, 0, 0), (260, .lmul, 261, 0, 0, 0, 0), (261, .lstore 24, 263, 24, 0, 0, 0), (263, .lload 22, 265, 22, 0, 0, 0), (265, .lload 24, 267, 24, 0, 0, 0), (267, .lload 24, 269, 24, 0, 0, 0), (269, .lmul, 270, 0, 0, 0, 0), (270, .lcmp, 271, 0, 0, 0, 0), (271, .ifCond .gt 28, 274, 299, 0, 0, 0), (274, .iload 12, 276, 12, 0, 0, 0), (276, .iconst (-1), 277, 0, 0, (-1), 0), (277, .if_icmp .eq 14, 280, 291, 0, 0, 0), (280, .lload 22, 282, 22, 0, 0, 0), (282, .lload 13, 284, 13, 0, 0, 0), (284, .lcmp, 285, 0, 0, 0, 0), (285, .ifCond .lt 6, 288, 291, 0, 0, 0), (288, .goto 11, 291, 299, 0, 0, 0), (291, .iload 15, 293, 15, 0, 0, 0), (293, .istore 12, 295, 12, 0, 0, 0), (295, .lload 22, 297, 22, 0, 0, 0), (297, .lstore 13, 299, 13, 0, 0, 0), (299, .iinc 15 1, 302, 15, 0, 1, 0), (302, .goto (-164), 305, 138, 0, 0, 0), (305, .iload 12, 307, 12, 0, 0, 0), (307, .iconst (-1), 308, 0, 0, (-1), 0), (308, .if_icmp .ne 19, 311, 327, 0, 0, 0), (311, .aload_n 0, 312, 0, 0, 0, 0), (312, .getfield 178, 315, 0, 0, 0, 0), (315, .istore 12, 317, 12, 0, 0, 0), (317, .aload_n 0, 318, 0, 0, 0, 0), (318, .dup, 319, 0, 0, 0, 0), (319, .getfield 178, 322, 0, 0, 0, 0), (322, .iconst 1, 323, 0, 0, 1, 0), (323, .iadd, 324, 0, 0, 0, 0), (324, .putfield 178, 327, 0, 0, 0, 0), (327, .aload_n 0, 328, 0, 0, 0, 0), (328, .getfield 35, 331, 0, 0, 0, 0), (331, .aload_n 0, 332, 0, 0, 0, 0), (332, .getfield 175, 335, 0, 0, 0, 0), (335, .iload_n 1, 336, 1, 0, 0, 0), (336, .iastore, 337, 0, 0, 0, 0), (337, .aload_n 0, 338, 0, 0, 0, 0), (338, .getfield 38, 341, 0, 0, 0, 0), (341, .aload_n 0, 342, 0, 0, 0, 0), (342, .getfield 175, 345, 0, 0, 0, 0), (345, .iload_n 2, 346, 2, 0, 0, 0), (346, .iastore, 347, 0, 0, 0, 0), (347, .aload_n 0, 348, 0, 0, 0, 0), (348, .getfield 41, 351, 0, 0, 0, 0), (351, .aload_n 0, 352, 0, 0, 0, 0), (352, .getfield 175, 355, 0, 0, 0, 0), (355, .iload 12, 357, 12, 0, 0, 0), (357, .iastore, 358, 0, 0, 0, 0), (358, .aload_n 0, 359, 0, 0, 0, 0), (359, .dup, 360, 0, 0, 0, 0), (360, .getfield 175, 363, 0, 0, 0, 0), (363, .iconst 1, 364, 0, 0, 1, 0), (364, .iadd, 365, 0, 0, 0, 0), (365, .putfield 175, 368, 0, 0, 0, 0), (368, .iload 12, 370, 12, 0, 0, 0), (370, .ireturn, 371, 0, 0, 0, 0)]
def s_X7_plotted : List (Int32 × Nat) := []
theorem r_X7_plotted : ∀ q ∈ k_X7_plotted, rz_row yX7_plotted.cls cX7_plotted 26 (some .int) false s_X7_plotted q.1 q.2 := rz_rows (by decide +kernel)
theorem m_X7_plotted : rz_MW yX7_plotted cX7_plotted 26 (some .int) 2 := ⟨bw_t 896 (by decide +kernel) rfl, bw_t 9 (by decide +kernel) rfl, by decide +kernel, by decide +kernel, by decide +kernel⟩
theorem i_X7_plotted : Cond.instanceMethod yX7_plotted ∈ bw := bw_t 894 (by decide +kernel) rfl
theorem v_X7_plotted : Cond.selects yX7_plotted.cls yX7_plotted yX7_plotted ∈ bw := bw_t 895 (by decide +kernel) rfl
def k_X7_post : List (Nat × rz_I) := [(0, .aload_n 0, 1, 0, 0, 0, 0), (1, .iconst 0, 2, 0, 0, 0, 0), (2, .putfield 84, 5, 0, 0, 0, 0), (5, .aload_n 0, 6, 0, 0, 0, 0), (6, .getfield 91, 9, 0, 0, 0, 0), (9, .bipush 6, 11, 0, 0, 6, 0), (11, .if_icmp .eq 22, 14, 33, 0, 0, 0), (14, .iload_n 1, 15, 1, 0, 0, 0), (15, .iload_n 2, 16, 2, 0, 0, 0), (16, .invokestatic 94, 19, 0, 0, 0, 0), (19, .ifCond .eq 14, 22, 33, 0, 0, 0), (22, .iload_n 3, 23, 3, 0, 0, 0), (23, .iconst 1, 24, 0, 0, 1, 0), (24, .sipush 500, 27, 0, 0, 500, 0), (27, .invokestatic 87, 30, 0, 0, 0, 0), (30, .ifCond .ne 5, 33, 35, 0, 0, 0), (33, .iconst (-1), 34, 0, 0, (-1), 0), (34, .ireturn, 35, 0, 0, 0, 0), (35, .aload_n 0, 36, 0, 0, 0, 0), (36, .getfield 9, 39, 0, 0, 0, 0), (39, .aload_n 0, 40, 0, 0, 0, 0), (40, .getfield 91, 43, 0, 0, 0, 0), (43, .iload_n 1, 44, 1, 0, 0, 0), (44, .iastore, 45, 0, 0, 0, 0), (45, .aload_n 0, 46, 0, 0, 0, 0), (46, .getfield 13, 49, 0, 0, 0, 0), (49, .aload_n 0, 50, 0, 0, 0, 0), (50, .getfield 91, 53, 0, 0, 0, 0), (53, .iload_n 2, 54, 2, 0, 0, 0), (54, .iastore, 55, 0, 0, 0, 0), (55, .aload_n 0, 56, 0, 0, 0, 0), (56, .getfield 16, 59, 0, 0, 0, 0), (59, .aload_n 0, 60, 0, 0, 0, 0), (60, .getfield 91, 63, 0, 0, 0, 0), (63, .iload_n 3, 64, 3, 0, 0, 0), (64, .iastore, 65, 0, 0, 0, 0), (65, .aload_n 0, 66, 0, 0, 0, 0), (66, .dup, 67, 0, 0, 0, 0), (67, .getfield 91, 70, 0, 0, 0, 0), (70, .iconst 1, 71, 0, 0, 1, 0), (71, .iadd, 72, 0, 0, 0, 0), (72, .putfield 91, 75, 0, 0, 0, 0), (75, .aload_n 0, 76, 0, 0, 0, 0), (76, .getfield 91, 79, 0, 0, 0, 0), (79, .iconst 1, 80, 0, 0, 1, 0), (80, .isub, 81, 0, 0, 0, 0), (81, .ireturn, 82, 0, 0, 0, 0)]
def s_X7_post : List (Int32 × Nat) := []
theorem r_X7_post : ∀ q ∈ k_X7_post, rz_row yX7_post.cls cX7_post 4 (some .int) false s_X7_post q.1 q.2 := rz_rows (by decide +kernel)
theorem m_X7_post : rz_MW yX7_post cX7_post 4 (some .int) 3 := ⟨bw_t 794 (by decide +kernel) rfl, bw_t 9 (by decide +kernel) rfl, by decide +kernel, by decide +kernel, by decide +kernel⟩
theorem i_X7_post : Cond.instanceMethod yX7_post ∈ bw := bw_t 792 (by decide +kernel) rfl
theorem v_X7_post : Cond.selects yX7_post.cls yX7_post yX7_post ∈ bw := bw_t 793 (by decide +kernel) rfl
def k_X7_reach : List (Nat × rz_I) := [(0, .aload_n 0, 1, 0, 0, 0, 0), (1, .iconst 0, 2, 0, 0, 0, 0), (2, .putfield 84, 5, 0, 0, 0, 0), (5, .aload_n 0, 6, 0, 0, 0, 0), (6, .getfield 98, 9, 0, 0, 0, 0), (9, .bipush 8, 11, 0, 0, 8, 0), (11, .if_icmp .eq 11, 14, 22, 0, 0, 0), (14, .iload_n 1, 15, 1, 0, 0, 0), (15, .iload_n 2, 16, 2, 0, 0, 0), (16, .invokestatic 94, 19, 0, 0, 0, 0), (19, .ifCond .ne 5, 22, 24, 0, 0, 0), (22, .iconst (-1), 23, 0, 0, (-1), 0), (23, .ireturn, 24, 0, 0, 0, 0), (24, .aload_n 0, 25, 0, 0, 0, 0), (25, .getfield 19, 28, 0, 0, 0, 0), (28, .aload_n 0, 29, 0, 0, 0, 0), (29, .getfield 98, 32, 0, 0, 0, 0), (32, .iload_n 1, 33, 1, 0, 0, 0), (33, .iastore, 34, 0, 0, 0, 0), (34, .aload_n 0, 35, 0, 0, 0, 0), (35, .getfield 22, 38, 0, 0, 0, 0), (38, .aload_n 0, 39, 0, 0, 0, 0), (39, .getfield 98, 42, 0, 0, 0, 0), (42, .iload_n 2, 43, 2, 0, 0, 0), (43, .iastore, 44, 0, 0, 0, 0), (44, .aload_n 0, 45, 0, 0, 0, 0), (45, .dup, 46, 0, 0, 0, 0), (46, .getfield 98, 49, 0, 0, 0, 0), (49, .iconst 1, 50, 0, 0, 1, 0), (50, .iadd, 51, 0, 0, 0, 0), (51, .putfield 98, 54, 0, 0, 0, 0), (54, .aload_n 0, 55, 0, 0, 0, 0), (55, .getfield 98, 58, 0, 0, 0, 0), (58, .iconst 1, 59, 0, 0, 1, 0), (59, .isub, 60, 0, 0, 0, 0), (60, .ireturn, 61, 0, 0, 0, 0)]
def s_X7_reach : List (Int32 × Nat) := []
theorem r_X7_reach : ∀ q ∈ k_X7_reach, rz_row yX7_reach.cls cX7_reach 3 (some .int) false s_X7_reach q.1 q.2 := rz_rows (by decide +kernel)
theorem m_X7_reach : rz_MW yX7_reach cX7_reach 3 (some .int) 2 := ⟨bw_t 804 (by decide +kernel) rfl, bw_t 9 (by decide +kernel) rfl, by decide +kernel, by decide +kernel, by decide +kernel⟩
theorem i_X7_reach : Cond.instanceMethod yX7_reach ∈ bw := bw_t 802 (by decide +kernel) rfl
theorem v_X7_reach : Cond.selects yX7_reach.cls yX7_reach yX7_reach ∈ bw := bw_t 803 (by decide +kernel) rfl
def k_X7_seenBy : List (Nat × rz_I) := [(0, .iconst 0, 1, 0, 0, 0, 0), (1, .istore_n 3, 2, 3, 0, 0, 0), (2, .iconst 0, 3, 0, 0, 0, 0), (3, .istore 4, 5, 4, 0, 0, 0), (5, .iload 4, 7, 4, 0, 0, 0), (7, .aload_n 0, 8, 0, 0, 0, 0), (8, .getfield 91, 11, 0, 0, 0, 0), (11, .if_icmp .ge 68, 14, 79, 0, 0, 0), (14, .iconst 0, 15, 0, 0, 0, 0), (15, .istore 5, 17, 5, 0, 0, 0), (17, .iload 5, 19, 5, 0, 0, 0), (19, .aload_n 0, 20, 0, 0, 0, 0), (20, .getfield 98, 23, 0, 0, 0, 0), (23, .if_icmp .ge 50, 26, 73, 0, 0, 0), (26, .iload_n 1, 27, 1, 0, 0, 0), (27, .iload 4, 29, 4, 0, 0, 0), (29, .ishr, 30, 0, 0, 0, 0), (30, .iconst 1, 31, 0, 0, 1, 0), (31, .iand, 32, 0, 0, 0, 0), (32, .iconst 1, 33, 0, 0, 1, 0), (33, .if_icmp .ne 34, 36, 67, 0, 0, 0), (36, .aload_n 0, 37, 0, 0, 0, 0), (37, .iload 4, 39, 4, 0, 0, 0), (39, .aload_n 0, 40, 0, 0, 0, 0), (40, .getfield 19, 43, 0, 0, 0, 0), (43, .iload 5, 45, 5, 0, 0, 0), (45, .iaload, 46, 0, 0, 0, 0), (46, .aload_n 0, 47, 0, 0, 0, 0), (47, .getfield 22, 50, 0, 0, 0, 0), (50, .iload 5, 52, 5, 0, 0, 0), (52, .iaload, 53, 0, 0, 0, 0), (53, .iload_n 2, 54, 2, 0, 0, 0), (54, .invokevirtual 101, 57, 0, 0, 0, 0), (57, .ifCond .eq 10, 60, 67, 0, 0, 0), (60, .iload_n 3, 61, 3, 0, 0, 0), (61, .iconst 1, 62, 0, 0, 1, 0), (62, .iload 5, 64, 5, 0, 0, 0), (64, .ishl, 65, 0, 0, 0, 0), (65, .ior, 66, 0, 0, 0, 0), (66, .istore_n 3, 67, 3, 0, 0, 0), (67, .iinc 5 1, 70, 5, 0, 1, 0), (70, .goto (-53), 73, 17, 0, 0, 0), (73, .iinc 4 1, 76, 4, 0, 1, 0), (76, .goto (-71), 79, 5, 0, 0, 0), (79, .iload_n 3, 80, 3, 0, 0, 0), (80, .ireturn, 81, 0, 0, 0, 0)]
def s_X7_seenBy : List (Int32 × Nat) := []
theorem r_X7_seenBy : ∀ q ∈ k_X7_seenBy, rz_row yX7_seenBy.cls cX7_seenBy 6 (some .int) false s_X7_seenBy q.1 q.2 := rz_rows (by decide +kernel)
theorem m_X7_seenBy : rz_MW yX7_seenBy cX7_seenBy 6 (some .int) 2 := ⟨bw_t 824 (by decide +kernel) rfl, bw_t 9 (by decide +kernel) rfl, by decide +kernel, by decide +kernel, by decide +kernel⟩
theorem i_X7_seenBy : Cond.instanceMethod yX7_seenBy ∈ bw := bw_t 823 (by decide +kernel) rfl
theorem v_X7_seenBy : Cond.selects yX7_seenBy.cls yX7_seenBy yX7_seenBy ∈ bw := bw_p 50 (by decide +kernel) rfl
def k_X7_sees : List (Nat × rz_I) := [(0, .aload_n 0, 1, 0, 0, 0, 0), (1, .iconst 0, 2, 0, 0, 0, 0), (2, .putfield 84, 5, 0, 0, 0, 0), (5, .iload_n 1, 6, 1, 0, 0, 0), (6, .iconst 0, 7, 0, 0, 0, 0), (7, .aload_n 0, 8, 0, 0, 0, 0), (8, .getfield 91, 11, 0, 0, 0, 0), (11, .iconst 1, 12, 0, 0, 1, 0), (12, .isub, 13, 0, 0, 0, 0), (13, .invokestatic 87, 16, 0, 0, 0, 0), (16, .ifCond .eq 23, 19, 39, 0, 0, 0), (19, .iload_n 2, 20, 2, 0, 0, 0), (20, .iload_n 3, 21, 3, 0, 0, 0), (21, .invokestatic 94, 24, 0, 0, 0, 0), (24, .ifCond .eq 15, 27, 39, 0, 0, 0), (27, .iload 4, 29, 4, 0, 0, 0), (29, .iconst 0, 30, 0, 0, 0, 0), (30, .sipush 333, 33, 0, 0, 333, 0), (33, .invokestatic 87, 36, 0, 0, 0, 0), (36, .ifCond .ne 5, 39, 41, 0, 0, 0), (39, .iconst (-1), 40, 0, 0, (-1), 0), (40, .ireturn, 41, 0, 0, 0, 0), (41, .aload_n 0, 42, 0, 0, 0, 0), (42, .iload_n 1, 43, 1, 0, 0, 0), (43, .iload_n 2, 44, 2, 0, 0, 0), (44, .iload_n 3, 45, 3, 0, 0, 0), (45, .iload 4, 47, 4, 0, 0, 0), (47, .invokevirtual 101, 50, 0, 0, 0, 0), (50, .ifCond .eq 7, 53, 57, 0, 0, 0), (53, .iconst 1, 54, 0, 0, 1, 0), (54, .goto 4, 57, 58, 0, 0, 0), (57, .iconst 0, 58, 0, 0, 0, 0), (58, .ireturn, 59, 0, 0, 0, 0)]
def s_X7_sees : List (Int32 × Nat) := []
theorem r_X7_sees : ∀ q ∈ k_X7_sees, rz_row yX7_sees.cls cX7_sees 5 (some .int) false s_X7_sees q.1 q.2 := rz_rows (by decide +kernel)
theorem m_X7_sees : rz_MW yX7_sees cX7_sees 5 (some .int) 4 := ⟨bw_t 812 (by decide +kernel) rfl, bw_t 9 (by decide +kernel) rfl, by decide +kernel, by decide +kernel, by decide +kernel⟩
theorem i_X7_sees : Cond.instanceMethod yX7_sees ∈ bw := bw_t 810 (by decide +kernel) rfl
theorem v_X7_sees : Cond.selects yX7_sees.cls yX7_sees yX7_sees ∈ bw := bw_t 811 (by decide +kernel) rfl
def k_X7_seesAt : List (Nat × rz_I) := [(0, .iload_n 2, 1, 2, 0, 0, 0), (1, .aload_n 0, 2, 0, 0, 0, 0), (2, .getfield 9, 5, 0, 0, 0, 0), (5, .iload_n 1, 6, 1, 0, 0, 0), (6, .iaload, 7, 0, 0, 0, 0), (7, .isub, 8, 0, 0, 0, 0), (8, .iload_n 2, 9, 2, 0, 0, 0), (9, .aload_n 0, 10, 0, 0, 0, 0), (10, .getfield 9, 13, 0, 0, 0, 0), (13, .iload_n 1, 14, 1, 0, 0, 0), (14, .iaload, 15, 0, 0, 0, 0), (15, .isub, 16, 0, 0, 0, 0), (16, .imul, 17, 0, 0, 0, 0), (17, .iload_n 3, 18, 3, 0, 0, 0), (18, .aload_n 0, 19, 0, 0, 0, 0), (19, .getfield 13, 22, 0, 0, 0, 0), (22, .iload_n 1, 23, 1, 0, 0, 0), (23, .iaload, 24, 0, 0, 0, 0), (24, .isub, 25, 0, 0, 0, 0), (25, .iload_n 3, 26, 3, 0, 0, 0), (26, .aload_n 0, 27, 0, 0, 0, 0), (27, .getfield 13, 30, 0, 0, 0, 0), (30, .iload_n 1, 31, 1, 0, 0, 0), (31, .iaload, 32, 0, 0, 0, 0), (32, .isub, 33, 0, 0, 0, 0), (33, .imul, 34, 0, 0, 0, 0), (34, .iadd, 35, 0, 0, 0, 0), (35, .istore 5, 37, 5, 0, 0, 0), (37, .iload 5, 39, 5, 0, 0, 0), (39, .aload_n 0, 40, 0, 0, 0, 0), (40, .getfield 25, 43, 0, 0, 0, 0), (43, .iload 4, 45, 4, 0, 0, 0), (45, .iaload, 46, 0, 0, 0, 0), (46, .aload_n 0, 47, 0, 0, 0, 0), (47, .getfield 25, 50, 0, 0, 0, 0), (50, .iload 4, 52, 4, 0, 0, 0), (52, .iaload, 53, 0, 0, 0, 0), (53, .imul, 54, 0, 0, 0, 0), (54, .if_icmp .gt 22, 57, 76, 0, 0, 0), (57, .iload 5, 59, 5, 0, 0, 0), (59, .sipush 1274, 62, 0, 0, 1274, 0), (62, .aload_n 0, 63, 0, 0, 0, 0), (63, .getfield 16, 66, 0, 0, 0, 0), (66, .iload_n 1, 67, 1, 0, 0, 0), (67, .iaload, 68, 0, 0, 0, 0), (68, .imul, 69, 0, 0, 0, 0), (69, .if_icmp .gt 7, 72, 76, 0, 0, 0), (72, .iconst 1, 73, 0, 0, 1, 0), (73, .goto 4, 76, 77, 0, 0, 0), (76, .iconst 0, 77, 0, 0, 0, 0), (77, .ireturn, 78, 0, 0, 0, 0)]
def s_X7_seesAt : List (Int32 × Nat) := []
theorem r_X7_seesAt : ∀ q ∈ k_X7_seesAt, rz_row yX7_seesAt.cls cX7_seesAt 6 (some .boolean) true s_X7_seesAt q.1 q.2 := rz_rows (by decide +kernel)
theorem m_X7_seesAt : rz_MW yX7_seesAt cX7_seesAt 6 (some .boolean) 4 := ⟨bw_t 816 (by decide +kernel) rfl, bw_t 9 (by decide +kernel) rfl, by decide +kernel, by decide +kernel, by decide +kernel⟩
theorem i_X7_seesAt : Cond.instanceMethod yX7_seesAt ∈ bw := bw_t 815 (by decide +kernel) rfl
theorem v_X7_seesAt : Cond.selects yX7_seesAt.cls yX7_seesAt yX7_seesAt ∈ bw := bw_p 49 (by decide +kernel) rfl
def k_X7_sight : List (Nat × rz_I) := [(0, .aload_n 0, 1, 0, 0, 0, 0), (1, .iconst 0, 2, 0, 0, 0, 0), (2, .putfield 84, 5, 0, 0, 0, 0), (5, .iload_n 1, 6, 1, 0, 0, 0), (6, .iconst 0, 7, 0, 0, 0, 0), (7, .aload_n 0, 8, 0, 0, 0, 0), (8, .getfield 91, 11, 0, 0, 0, 0), (11, .iconst 1, 12, 0, 0, 1, 0), (12, .isub, 13, 0, 0, 0, 0), (13, .invokestatic 87, 16, 0, 0, 0, 0), (16, .ifCond .eq 70, 19, 86, 0, 0, 0), (19, .aload_n 0, 20, 0, 0, 0, 0), (20, .getfield 113, 23, 0, 0, 0, 0), (23, .bipush 100, 25, 0, 0, 100, 0), (25, .if_icmp .eq 61, 28, 86, 0, 0, 0), (28, .iload_n 2, 29, 2, 0, 0, 0), (29, .bipush (-50), 31, 0, 0, (-50), 0), (31, .bipush 50, 33, 0, 0, 50, 0), (33, .invokestatic 87, 36, 0, 0, 0, 0), (36, .ifCond .eq 50, 39, 86, 0, 0, 0), (39, .iload_n 3, 40, 3, 0, 0, 0), (40, .bipush (-50), 42, 0, 0, (-50), 0), (42, .bipush 50, 44, 0, 0, 50, 0), (44, .invokestatic 87, 47, 0, 0, 0, 0), (47, .ifCond .eq 39, 50, 86, 0, 0, 0), (50, .iload 4, 52, 4, 0, 0, 0), (52, .bipush (-50), 54, 0, 0, (-50), 0), (54, .bipush 50, 56, 0, 0, 50, 0), (56, .invokestatic 87, 59, 0, 0, 0, 0), (59, .ifCond .eq 27, 62, 86, 0, 0, 0), (62, .iload 5, 64, 5, 0, 0, 0), (64, .bipush (-50), 66, 0, 0, (-50), 0), (66, .bipush 50, 68, 0, 0, 50, 0), (68, .invokestatic 87, 71, 0, 0, 0, 0), (71, .ifCond .eq 15, 74, 86, 0, 0, 0), (74, .iload_n 2, 75, 2, 0, 0, 0), (75, .iload 5, 77, 5, 0, 0, 0), (77, .imul, 78, 0, 0, 0, 0), (78, .iload_n 3, 79, 3, 0, 0, 0), (79, .iload 4, 81, 4, 0, 0, 0), (81, .imul, 82, 0, 0, 0, 0), (82, .isub, 83, 0, 0, 0, 0), (83, .ifCond .gt 5, 86, 88, 0, 0, 0), (86, .iconst (-1), 87, 0, 0, (-1), 0), (87, .ireturn, 88, 0, 0, 0, 0), (88, .bipush 6, 90, 0, 0, 6, 0), (90, .newarray .int, 92, 900, 6, 6, 0), (92, .dup, 93, 0, 0, 0, 0), (93, .iconst 0, 94, 0, 0, 0, 0), (94, .iload_n 1, 95, 1, 0, 0, 0), (95, .iastore, 96, 0, 0, 0, 0), (96, .dup, 97, 0, 0, 0, 0), (97, .iconst 1, 98, 0, 0, 1, 0), (98, .aload_n 0, 99, 0, 0, 0, 0), (99, .getfield 116, 102, 0, 0, 0, 0), (102, .iastore, 103, 0, 0, 0, 0), (103, .dup, 104, 0, 0, 0, 0), (104, .iconst 2, 105, 0, 0, 2, 0), (105, .iload_n 2, 106, 2, 0, 0, 0), (106, .iastore, 107, 0, 0, 0, 0), (107, .dup, 108, 0, 0, 0, 0), (108, .iconst 3, 109, 0, 0, 3, 0), (109, .iload_n 3, 110, 3, 0, 0, 0), (110, .iastore, 111, 0, 0, 0, 0), (111, .dup, 112, 0, 0, 0, 0), (112, .iconst 4, 113, 0, 0, 4, 0), (113, .iload 4, 115, 4, 0, 0, 0), (115, .iastore, 116, 0, 0, 0, 0), (116, .dup, 117, 0, 0, 0, 0), (117, .iconst 5, 118, 0, 0, 5, 0), (118, .iload 5, 120, 5, 0, 0, 0), (120, .iastore, 121, 0, 0, 0, 0), (121, .astore 6, 123, 6, 0, 0, 0), (123, .iconst 0, 124, 0, 0, 0, 0), (124, .istore 7, 126, 7, 0, 0, 0), (126, .iload 7, 128, 7, 0, 0, 0), (128, .bipush 6, 130, 0, 0, 6, 0), (130, .if_icmp .ge 29, 133, 159, 0, 0, 0), (133, .aload_n 0, 134, 0, 0, 0, 0), (134, .getfield 32, 137, 0, 0, 0, 0), (137, .bipush 6, 139, 0, 0, 6, 0), (139, .aload_n 0, 140, 0, 0, 0, 0), (140, .getfield 113, 143, 0, 0, 0, 0), (143, .imul, 144, 0, 0, 0, 0), (144, .iload 7, 146, 7, 0, 0, 0), (146, .iadd, 147, 0, 0, 0, 0), (147, .aload 6, 149, 6, 0, 0, 0), (149, .iload 7, 151, 7, 0, 0, 0), (151, .iaload, 152, 0, 0, 0, 0), (152, .iastore, 153, 0, 0, 0, 0), (153, .iinc 7 1, 156, 7, 0, 1, 0), (156, .goto (-30), 159, 126, 0, 0, 0), (159, .aload_n 0, 160, 0, 0, 0, 0), (160, .dup, 161, 0, 0, 0, 0), (161, .getfield 113, 164, 0, 0, 0, 0), (164, .iconst 1, 165, 0, 0, 1, 0), (165, .iadd, 166, 0, 0, 0, 0), (166, .putfield 113, 169, 0, 0, 0, 0), (169, .aload_n 0, 170, 0, 0, 0, 0), (170, .getfield 113, 173, 0, 0, 0, 0), (173, .iconst 1, 174, 0, 0, 1, 0), (174, .isub, 175, 0, 0, 0, 0), (175, .ireturn, 176, 0, 0, 0, 0)]
def s_X7_sight : List (Int32 × Nat) := []
theorem r_X7_sight : ∀ q ∈ k_X7_sight, rz_row yX7_sight.cls cX7_sight 8 (some .int) false s_X7_sight q.1 q.2 := rz_rows (by decide +kernel)
theorem m_X7_sight : rz_MW yX7_sight cX7_sight 8 (some .int) 5 := ⟨bw_t 835 (by decide +kernel) rfl, bw_t 9 (by decide +kernel) rfl, by decide +kernel, by decide +kernel, by decide +kernel⟩
theorem i_X7_sight : Cond.instanceMethod yX7_sight ∈ bw := bw_t 833 (by decide +kernel) rfl
theorem v_X7_sight : Cond.selects yX7_sight.cls yX7_sight yX7_sight ∈ bw := bw_t 834 (by decide +kernel) rfl
def k_X7_speed : List (Nat × rz_I) := [(0, .aload_n 0, 1, 0, 0, 0, 0), (1, .iconst 0, 2, 0, 0, 0, 0), (2, .putfield 84, 5, 0, 0, 0, 0), (5, .iload_n 1, 6, 1, 0, 0, 0), (6, .iconst 1, 7, 0, 0, 1, 0), (7, .bipush 100, 9, 0, 0, 100, 0), (9, .invokestatic 87, 12, 0, 0, 0, 0), (12, .ifCond .ne 5, 15, 17, 0, 0, 0), (15, .iconst 0, 16, 0, 0, 0, 0), (16, .ireturn, 17, 0, 0, 0, 0), (17, .aload_n 0, 18, 0, 0, 0, 0), (18, .iload_n 1, 19, 1, 0, 0, 0), (19, .putfield 28, 22, 0, 0, 0, 0), (22, .iconst 1, 23, 0, 0, 1, 0), (23, .ireturn, 24, 0, 0, 0, 0)]
def s_X7_speed : List (Int32 × Nat) := []
theorem r_X7_speed : ∀ q ∈ k_X7_speed, rz_row yX7_speed.cls cX7_speed 2 (some .boolean) true s_X7_speed q.1 q.2 := rz_rows (by decide +kernel)
theorem m_X7_speed : rz_MW yX7_speed cX7_speed 2 (some .boolean) 1 := ⟨bw_t 907 (by decide +kernel) rfl, bw_t 9 (by decide +kernel) rfl, by decide +kernel, by decide +kernel, by decide +kernel⟩
theorem i_X7_speed : Cond.instanceMethod yX7_speed ∈ bw := bw_t 905 (by decide +kernel) rfl
theorem v_X7_speed : Cond.selects yX7_speed.cls yX7_speed yX7_speed ∈ bw := bw_t 906 (by decide +kernel) rfl
def k_X7_stands : List (Nat × rz_I) := [(0, .aload_n 0, 1, 0, 0, 0, 0), (1, .iload_n 1, 2, 1, 0, 0, 0), (2, .iload_n 3, 3, 3, 0, 0, 0), (3, .invokevirtual 199, 6, 0, 0, 0, 0), (6, .istore 4, 8, 4, 0, 0, 0), (8, .iload 4, 10, 4, 0, 0, 0), (10, .iconst (-1), 11, 0, 0, (-1), 0), (11, .if_icmp .ne 5, 14, 16, 0, 0, 0), (14, .iconst 0, 15, 0, 0, 0, 0), (15, .ireturn, 16, 0, 0, 0, 0), (16, .aload_n 0, 17, 0, 0, 0, 0), (17, .getfield 47, 20, 0, 0, 0, 0), (20, .iload_n 1, 21, 1, 0, 0, 0), (21, .iaload, 22, 0, 0, 0, 0), (22, .iconst (-1), 23, 0, 0, (-1), 0), (23, .if_icmp .eq 25, 26, 48, 0, 0, 0), (26, .aload_n 0, 27, 0, 0, 0, 0), (27, .getfield 47, 30, 0, 0, 0, 0), (30, .iload_n 1, 31, 1, 0, 0, 0), (31, .iaload, 32, 0, 0, 0, 0), (32, .iload_n 3, 33, 3, 0, 0, 0), (33, .if_icmp .gt 15, 36, 48, 0, 0, 0), (36, .aload_n 0, 37, 0, 0, 0, 0), (37, .getfield 47, 40, 0, 0, 0, 0), (40, .iload_n 1, 41, 1, 0, 0, 0), (41, .iaload, 42, 0, 0, 0, 0), (42, .iload_n 2, 43, 2, 0, 0, 0), (43, .if_icmp .gt 5, 46, 48, 0, 0, 0), (46, .iconst 4, 47, 0, 0, 4, 0), (47, .ireturn, 48, 0, 0, 0, 0), (48, .iload_n 2, 49, 2, 0, 0, 0), (49, .aload_n 0, 50, 0, 0, 0, 0), (50, .iload 4, 52, 4, 0, 0, 0), (52, .iconst 2, 53, 0, 0, 2, 0), (53, .invokevirtual 196, 56, 0, 0, 0, 0), (56, .if_icmp .ge 5, 59, 61, 0, 0, 0), (59, .iconst 1, 60, 0, 0, 1, 0), (60, .ireturn, 61, 0, 0, 0, 0), (61, .iload_n 2, 62, 2, 0, 0, 0), (62, .aload_n 0, 63, 0, 0, 0, 0), (63, .iload 4, 65, 4, 0, 0, 0), (65, .iconst 3, 66, 0, 0, 3, 0), (66, .invokevirtual 196, 69, 0, 0, 0, 0), (69, .aload_n 0, 70, 0, 0, 0, 0), (70, .iload 4, 72, 4, 0, 0, 0), (72, .iconst 4, 73, 0, 0, 4, 0), (73, .invokevirtual 196, 76, 0, 0, 0, 0), (76, .iadd, 77, 0, 0, 0, 0), (77, .if_icmp .gt 7, 80, 84, 0, 0, 0), (80, .iconst 2, 81, 0, 0, 2, 0), (81, .goto 4, 84, 85, 0, 0, 0), (84, .iconst 3, 85, 0, 0, 3, 0), (85, .ireturn, 86, 0, 0, 0, 0)]
def s_X7_stands : List (Int32 × Nat) := []
theorem r_X7_stands : ∀ q ∈ k_X7_stands, rz_row yX7_stands.cls cX7_stands 5 (some .int) false s_X7_stands q.1 q.2 := rz_rows (by decide +kernel)
theorem m_X7_stands : rz_MW yX7_stands cX7_stands 5 (some .int) 3 := ⟨bw_t 928 (by decide +kernel) rfl, bw_t 9 (by decide +kernel) rfl, by decide +kernel, by decide +kernel, by decide +kernel⟩
theorem i_X7_stands : Cond.instanceMethod yX7_stands ∈ bw := bw_t 927 (by decide +kernel) rfl
theorem v_X7_stands : Cond.selects yX7_stands.cls yX7_stands yX7_stands ∈ bw := bw_p 60 (by decide +kernel) rfl
def k_X7_step : List (Nat × rz_I) := [(0, .aload_n 0, 1, 0, 0, 0, 0), (1, .iconst 0, 2, 0, 0, 0, 0), (2, .putfield 84, 5, 0, 0, 0, 0), (5, .iload_n 1, 6, 1, 0, 0, 0), (6, .iconst 0, 7, 0, 0, 0, 0), (7, .sipush 3000, 10, 0, 0, 3000, 0), (10, .invokestatic 87, 13, 0, 0, 0, 0), (13, .ifCond .eq 15, 16, 28, 0, 0, 0), (16, .aload_n 0, 17, 0, 0, 0, 0), (17, .getfield 116, 20, 0, 0, 0, 0), (20, .iload_n 1, 21, 1, 0, 0, 0), (21, .iadd, 22, 0, 0, 0, 0), (22, .sipush 20000, 25, 0, 0, 20000, 0), (25, .if_icmp .le 5, 28, 30, 0, 0, 0), (28, .iconst (-1), 29, 0, 0, (-1), 0), (29, .ireturn, 30, 0, 0, 0, 0), (30, .iconst 0, 31, 0, 0, 0, 0), (31, .istore_n 2, 32, 2, 0, 0, 0), (32, .iload_n 2, 33, 2, 0, 0, 0), (33, .iload_n 1, 34, 1, 0, 0, 0), (34, .if_icmp .ge 57, 37, 91, 0, 0, 0), (37, .aload_n 0, 38, 0, 0, 0, 0), (38, .dup, 39, 0, 0, 0, 0), (39, .getfield 116, 42, 0, 0, 0, 0), (42, .iconst 1, 43, 0, 0, 1, 0), (43, .iadd, 44, 0, 0, 0, 0), (44, .putfield 116, 47, 0, 0, 0, 0), (47, .iconst 0, 48, 0, 0, 0, 0), (48, .istore_n 3, 49, 3, 0, 0, 0), (49, .iload_n 3, 50, 3, 0, 0, 0), (50, .aload_n 0, 51, 0, 0, 0, 0), (51, .getfield 188, 54, 0, 0, 0, 0), (54, .if_icmp .ge 31, 57, 85, 0, 0, 0), (57, .aload_n 0, 58, 0, 0, 0, 0), (58, .iload_n 3, 59, 3, 0, 0, 0), (59, .aload_n 0, 60, 0, 0, 0, 0), (60, .getfield 116, 63, 0, 0, 0, 0), (63, .aload_n 0, 64, 0, 0, 0, 0), (64, .getfield 116, 67, 0, 0, 0, 0), (67, .invokevirtual 202, 70, 0, 0, 0, 0), (70, .iconst 3, 71, 0, 0, 3, 0), (71, .if_icmp .ne 8, 74, 79, 0, 0, 0), (74, .aload_n 0, 75, 0, 0, 0, 0), (75, .iload_n 3, 76, 3, 0, 0, 0), (76, .invokevirtual 206, 79, 0, 0, 0, 0), (79, .iinc 3 1, 82, 3, 0, 1, 0), (82, .goto (-33), 85, 49, 0, 0, 0), (85, .iinc 2 1, 88, 2, 0, 1, 0), (88, .goto (-56), 91, 32, 0, 0, 0), (91, .aload_n 0, 92, 0, 0, 0, 0), (92, .getfield 116, 95, 0, 0, 0, 0), (95, .ireturn, 96, 0, 0, 0, 0)]
def s_X7_step : List (Int32 × Nat) := []
theorem r_X7_step : ∀ q ∈ k_X7_step, rz_row yX7_step.cls cX7_step 4 (some .int) false s_X7_step q.1 q.2 := rz_rows (by decide +kernel)
theorem m_X7_step : rz_MW yX7_step cX7_step 4 (some .int) 1 := ⟨bw_t 944 (by decide +kernel) rfl, bw_t 9 (by decide +kernel) rfl, by decide +kernel, by decide +kernel, by decide +kernel⟩
theorem i_X7_step : Cond.instanceMethod yX7_step ∈ bw := bw_t 942 (by decide +kernel) rfl
theorem v_X7_step : Cond.selects yX7_step.cls yX7_step yX7_step ∈ bw := bw_t 943 (by decide +kernel) rfl
def k_X7_thrown : List (Nat × rz_I) := [(0, .aload_n 0, 1, 0, 0, 0, 0), (1, .getfield 84, 4, 0, 0, 0, 0), (4, .ireturn, 5, 0, 0, 0, 0)]
def s_X7_thrown : List (Int32 × Nat) := []
theorem r_X7_thrown : ∀ q ∈ k_X7_thrown, rz_row yX7_thrown.cls cX7_thrown 1 (some .int) false s_X7_thrown q.1 q.2 := rz_rows (by decide +kernel)
theorem m_X7_thrown : rz_MW yX7_thrown cX7_thrown 1 (some .int) 0 := ⟨bw_t 790 (by decide +kernel) rfl, bw_t 9 (by decide +kernel) rfl, by decide +kernel, by decide +kernel, by decide +kernel⟩
theorem i_X7_thrown : Cond.instanceMethod yX7_thrown ∈ bw := bw_t 788 (by decide +kernel) rfl
theorem v_X7_thrown : Cond.selects yX7_thrown.cls yX7_thrown yX7_thrown ∈ bw := bw_t 789 (by decide +kernel) rfl
def k_X7_track : List (Nat × rz_I) := [(0, .aload_n 0, 1, 0, 0, 0, 0), (1, .iconst 0, 2, 0, 0, 0, 0), (2, .putfield 84, 5, 0, 0, 0, 0), (5, .iload_n 1, 6, 1, 0, 0, 0), (6, .iconst 0, 7, 0, 0, 0, 0), (7, .aload_n 0, 8, 0, 0, 0, 0), (8, .getfield 175, 11, 0, 0, 0, 0), (11, .iconst 1, 12, 0, 0, 1, 0), (12, .isub, 13, 0, 0, 0, 0), (13, .invokestatic 87, 16, 0, 0, 0, 0), (16, .ifCond .ne 5, 19, 21, 0, 0, 0), (19, .iconst (-1), 20, 0, 0, (-1), 0), (20, .ireturn, 21, 0, 0, 0, 0), (21, .iload_n 2, 22, 2, 0, 0, 0), (22, .tableswitch 63 0 3 #[30, 37, 44, 51], 52, 85, 0, 0, 0), (52, .aload_n 0, 53, 0, 0, 0, 0), (53, .getfield 41, 56, 0, 0, 0, 0), (56, .iload_n 1, 57, 1, 0, 0, 0), (57, .iaload, 58, 0, 0, 0, 0), (58, .ireturn, 59, 0, 0, 0, 0), (59, .aload_n 0, 60, 0, 0, 0, 0), (60, .getfield 35, 63, 0, 0, 0, 0), (63, .iload_n 1, 64, 1, 0, 0, 0), (64, .iaload, 65, 0, 0, 0, 0), (65, .ireturn, 66, 0, 0, 0, 0), (66, .aload_n 0, 67, 0, 0, 0, 0), (67, .getfield 38, 70, 0, 0, 0, 0), (70, .iload_n 1, 71, 1, 0, 0, 0), (71, .iaload, 72, 0, 0, 0, 0), (72, .ireturn, 73, 0, 0, 0, 0), (73, .aload_n 0, 74, 0, 0, 0, 0), (74, .aload_n 0, 75, 0, 0, 0, 0), (75, .getfield 35, 78, 0, 0, 0, 0), (78, .iload_n 1, 79, 1, 0, 0, 0), (79, .iaload, 80, 0, 0, 0, 0), (80, .iconst 1, 81, 0, 0, 1, 0), (81, .invokevirtual 119, 84, 0, 0, 0, 0), (84, .ireturn, 85, 0, 0, 0, 0), (85, .iconst (-1), 86, 0, 0, (-1), 0), (86, .ireturn, 87, 0, 0, 0, 0)]
def s_X7_track : List (Int32 × Nat) := [(0, 52), (1, 59), (2, 66), (3, 73)]
theorem r_X7_track : ∀ q ∈ k_X7_track, rz_row yX7_track.cls cX7_track 3 (some .int) false s_X7_track q.1 q.2 := rz_rows (by decide +kernel)
theorem m_X7_track : rz_MW yX7_track cX7_track 3 (some .int) 2 := ⟨bw_t 911 (by decide +kernel) rfl, bw_t 9 (by decide +kernel) rfl, by decide +kernel, by decide +kernel, by decide +kernel⟩
theorem i_X7_track : Cond.instanceMethod yX7_track ∈ bw := bw_t 909 (by decide +kernel) rfl
theorem v_X7_track : Cond.selects yX7_track.cls yX7_track yX7_track ∈ bw := bw_t 910 (by decide +kernel) rfl
def k_X7_weather : List (Nat × rz_I) := [(0, .aload_n 0, 1, 0, 0, 0, 0), (1, .iconst 0, 2, 0, 0, 0, 0), (2, .putfield 84, 5, 0, 0, 0, 0), (5, .iload_n 1, 6, 1, 0, 0, 0), (6, .iconst 0, 7, 0, 0, 0, 0), (7, .sipush 333, 10, 0, 0, 333, 0), (10, .invokestatic 87, 13, 0, 0, 0, 0), (13, .ifCond .eq 14, 16, 27, 0, 0, 0), (16, .iload_n 2, 17, 2, 0, 0, 0), (17, .iconst 0, 18, 0, 0, 0, 0), (18, .sipush 2000, 21, 0, 0, 2000, 0), (21, .invokestatic 87, 24, 0, 0, 0, 0), (24, .ifCond .ne 5, 27, 29, 0, 0, 0), (27, .iconst 0, 28, 0, 0, 0, 0), (28, .ireturn, 29, 0, 0, 0, 0), (29, .aload_n 0, 30, 0, 0, 0, 0), (30, .getfield 25, 33, 0, 0, 0, 0), (33, .iload_n 1, 34, 1, 0, 0, 0), (34, .iload_n 2, 35, 2, 0, 0, 0), (35, .iastore, 36, 0, 0, 0, 0), (36, .iconst 1, 37, 0, 0, 1, 0), (37, .ireturn, 38, 0, 0, 0, 0)]
def s_X7_weather : List (Int32 × Nat) := []
theorem r_X7_weather : ∀ q ∈ k_X7_weather, rz_row yX7_weather.cls cX7_weather 3 (some .boolean) true s_X7_weather q.1 q.2 := rz_rows (by decide +kernel)
theorem m_X7_weather : rz_MW yX7_weather cX7_weather 3 (some .boolean) 2 := ⟨bw_t 808 (by decide +kernel) rfl, bw_t 9 (by decide +kernel) rfl, by decide +kernel, by decide +kernel, by decide +kernel⟩
theorem i_X7_weather : Cond.instanceMethod yX7_weather ∈ bw := bw_t 806 (by decide +kernel) rfl
theorem v_X7_weather : Cond.selects yX7_weather.cls yX7_weather yX7_weather ∈ bw := bw_t 807 (by decide +kernel) rfl
end
section
/-! Links of calls: by program. -/
theorem n_X2_40 : Cond.methodLink RX2 40 yJ7_fill_53178 ∈ bw := bw_t 31 (by decide +kernel) rfl
theorem n_X1_28 : Cond.methodLink RX1 28 yJ7_fill_53178 ∈ bw := bw_t 226 (by decide +kernel) rfl
theorem n_X6_55 : Cond.methodLink RX6 55 yX6_isPlace ∈ bw := bw_t 271 (by decide +kernel) rfl
theorem n_X6_59 : Cond.methodLink RX6 59 yX6_isWithin ∈ bw := bw_t 274 (by decide +kernel) rfl
theorem n_X6_63 : Cond.methodLinkNest RX6 63 yX2_addPost "CoastWatch" ∈ tables_1 := List.mem_of_getElem? (i := 277) (by decide +kernel)
theorem n_X6_67 : Cond.methodLinkNest RX6 67 yX2_addReach "CoastWatch" ∈ tables_1 := List.mem_of_getElem? (i := 285) (by decide +kernel)
theorem n_X6_71 : Cond.methodLink RX6 71 yX6_isHour ∈ bw := bw_t 293 (by decide +kernel) rfl
theorem n_X6_79 : Cond.methodLinkNest RX6 79 yX2_hasPost "CoastWatch" ∈ tables_1 := List.mem_of_getElem? (i := 300) (by decide +kernel)
theorem n_X2_46 : Cond.methodLinkNest RX2 46 yX6_isWithin "CoastWatch" ∈ tables_1 := List.mem_of_getElem? (i := 304) (by decide +kernel)
theorem n_X6_82 : Cond.methodLinkNest RX6 82 yX2_isSeen "CoastWatch" ∈ tables_1 := List.mem_of_getElem? (i := 305) (by decide +kernel)
theorem n_X6_86 : Cond.methodLinkNest RX6 86 yX2_fewestPosts "CoastWatch" ∈ tables_1 := List.mem_of_getElem? (i := 313) (by decide +kernel)
theorem n_X2_58 : Cond.methodLink RX2 58 yX2_reachesSeen ∈ bw := bw_t 317 (by decide +kernel) rfl
theorem n_X2_54 : Cond.methodLink RX2 54 yX2_reachesSeenBy ∈ bw := bw_t 321 (by decide +kernel) rfl
theorem n_X2_50 : Cond.methodLink RX2 50 yX2_isSeen ∈ bw := bw_t 325 (by decide +kernel) rfl
theorem n_X2_62 : Cond.methodLink RX2 62 yJ6_bitCount_0f7a4 ∈ bw := bw_t 326 (by decide +kernel) rfl
theorem n_X2_67 : Cond.methodLink RX2 67 yX2_seenBySet ∈ bw := bw_t 332 (by decide +kernel) rfl
theorem n_X6_90 : Cond.methodLinkNest RX6 90 yX2_reachesUnseen "CoastWatch" ∈ tables_1 := List.mem_of_getElem? (i := 340) (by decide +kernel)
theorem n_X6_93 : Cond.methodLink RX6 93 yX6_isEdge ∈ bw := bw_t 348 (by decide +kernel) rfl
theorem n_X6_102 : Cond.methodLinkNest RX6 102 yX5_add "CoastWatch" ∈ tables_1 := List.mem_of_getElem? (i := 351) (by decide +kernel)
theorem n_X6_105 : Cond.methodLinkNest RX6 105 yX5_setEdges "CoastWatch" ∈ tables_1 := List.mem_of_getElem? (i := 355) (by decide +kernel)
theorem n_X6_109 : Cond.methodLink RX6 109 yX6_meet ∈ bw := bw_t 363 (by decide +kernel) rfl
theorem n_X6_190 : Cond.methodLinkNest RX6 190 yX5_has "CoastWatch" ∈ tables_1 := List.mem_of_getElem? (i := 367) (by decide +kernel)
theorem n_X5_37 : Cond.methodLinkNest RX5 37 yX6_isWithin "CoastWatch" ∈ tables_1 := List.mem_of_getElem? (i := 371) (by decide +kernel)
theorem n_X6_193 : Cond.methodLinkNest RX6 193 yX5_canMeet "CoastWatch" ∈ tables_1 := List.mem_of_getElem? (i := 372) (by decide +kernel)
theorem n_X6_196 : Cond.methodLinkNest RX6 196 yX5_putHalfPlanes "CoastWatch" ∈ tables_1 := List.mem_of_getElem? (i := 376) (by decide +kernel)
theorem n_X5_41 : Cond.methodLinkNest RX5 41 yX4_putLeftSide "CoastWatch" ∈ tables_1 := List.mem_of_getElem? (i := 380) (by decide +kernel)
theorem n_X5_47 : Cond.methodLinkNest RX5 47 yX4_putEdge "CoastWatch" ∈ tables_1 := List.mem_of_getElem? (i := 384) (by decide +kernel)
theorem n_X6_200 : Cond.methodLinkNest RX6 200 yX4_findCorners "CoastWatch" ∈ tables_1 := List.mem_of_getElem? (i := 388) (by decide +kernel)
theorem n_X4_43 : Cond.methodLink RX4 43 yX4_tryCrossing ∈ bw := bw_t 392 (by decide +kernel) rfl
theorem n_X4_47 : Cond.methodLink RX4 47 yX4_isInside ∈ bw := bw_t 396 (by decide +kernel) rfl
theorem n_X4_51 : Cond.methodLink RX4 51 yX4_insert ∈ bw := bw_t 400 (by decide +kernel) rfl
theorem n_X4_55 : Cond.methodLink RX4 55 yX4_order ∈ bw := bw_t 404 (by decide +kernel) rfl
theorem n_X4_66 : Cond.methodLink RX4 66 yJ13_compare_74951 ∈ bw := bw_t 408 (by decide +kernel) rfl
theorem n_X4_59 : Cond.methodLink RX4 59 yX4_commonDivisor ∈ bw := bw_t 411 (by decide +kernel) rfl
theorem n_X4_72 : Cond.methodLink RX4 72 yJ9_abs_067f4 ∈ bw := bw_t 414 (by decide +kernel) rfl
theorem n_X4_63 : Cond.methodLink RX4 63 yX4_over ∈ bw := bw_t 417 (by decide +kernel) rfl
theorem n_X6_203 : Cond.methodLinkNest RX6 203 yX4_kind "CoastWatch" ∈ tables_1 := List.mem_of_getElem? (i := 420) (by decide +kernel)
theorem n_X4_78 : Cond.methodLink RX4 78 yX4_isEndless ∈ bw := bw_t 424 (by decide +kernel) rfl
theorem n_X4_82 : Cond.methodLink RX4 82 yX4_runsInside ∈ bw := bw_t 428 (by decide +kernel) rfl
theorem n_X6_125 : Cond.methodLinkNest RX6 125 yX3_takes "CoastWatch" ∈ tables_1 := List.mem_of_getElem? (i := 440) (by decide +kernel)
theorem n_X6_131 : Cond.methodLinkNest RX6 131 yX3_add "CoastWatch" ∈ tables_1 := List.mem_of_getElem? (i := 444) (by decide +kernel)
theorem n_X3_49 : Cond.methodLinkNest RX3 49 yX4_boxSide "CoastWatch" ∈ tables_1 := List.mem_of_getElem? (i := 448) (by decide +kernel)
theorem n_X4_86 : Cond.methodLink RX4 86 yX4_least ∈ bw := bw_t 452 (by decide +kernel) rfl
theorem n_X4_95 : Cond.methodLink RX4 95 yX4_floor ∈ bw := bw_t 457 (by decide +kernel) rfl
theorem n_X4_106 : Cond.methodLink RX4 106 yJ9_floorDiv_f86c9 ∈ bw := bw_t 460 (by decide +kernel) rfl
theorem n_X4_98 : Cond.methodLink RX4 98 yJ9_min_f86c9 ∈ bw := bw_t 463 (by decide +kernel) rfl
theorem n_X4_90 : Cond.methodLink RX4 90 yX4_greatest ∈ bw := bw_t 466 (by decide +kernel) rfl
theorem n_X4_103 : Cond.methodLink RX4 103 yJ9_max_f86c9 ∈ bw := bw_t 471 (by decide +kernel) rfl
theorem n_X3_55 : Cond.methodLink RX3 55 yX3_nearestTrack ∈ bw := bw_t 474 (by decide +kernel) rfl
theorem n_X3_58 : Cond.methodLink RX3 58 yX3_squaredDistance ∈ bw := bw_t 478 (by decide +kernel) rfl
theorem n_X3_62 : Cond.methodLink RX3 62 yX3_gap ∈ bw := bw_t 482 (by decide +kernel) rfl
theorem n_X6_137 : Cond.methodLinkNest RX6 137 yX3_partOf "CoastWatch" ∈ tables_1 := List.mem_of_getElem? (i := 493) (by decide +kernel)
theorem n_X3_66 : Cond.methodLinkNest RX3 66 yX6_isWithin "CoastWatch" ∈ tables_1 := List.mem_of_getElem? (i := 497) (by decide +kernel)
theorem n_X6_140 : Cond.methodLink RX6 140 yX6_isMinute ∈ bw := bw_t 502 (by decide +kernel) rfl
theorem n_X6_143 : Cond.methodLinkNest RX6 143 yX0_takesPlan "CoastWatch" ∈ tables_1 := List.mem_of_getElem? (i := 505) (by decide +kernel)
theorem n_X0_41 : Cond.methodLink RX0 41 yX0_hasBoat ∈ bw := bw_t 509 (by decide +kernel) rfl
theorem n_X0_37 : Cond.methodLinkNest RX0 37 yX6_isWithin "CoastWatch" ∈ tables_1 := List.mem_of_getElem? (i := 513) (by decide +kernel)
theorem n_X0_45 : Cond.methodLink RX0 45 yX0_isIn ∈ bw := bw_t 514 (by decide +kernel) rfl
theorem n_X6_146 : Cond.methodLinkNest RX6 146 yX0_addPlan "CoastWatch" ∈ tables_1 := List.mem_of_getElem? (i := 518) (by decide +kernel)
theorem n_X6_150 : Cond.methodLinkNest RX6 150 yX0_hasBoat "CoastWatch" ∈ tables_1 := List.mem_of_getElem? (i := 526) (by decide +kernel)
theorem n_X6_153 : Cond.methodLinkNest RX6 153 yX0_isIn "CoastWatch" ∈ tables_1 := List.mem_of_getElem? (i := 527) (by decide +kernel)
theorem n_X6_159 : Cond.methodLinkNest RX6 159 yX0_stateOf "CoastWatch" ∈ tables_1 := List.mem_of_getElem? (i := 532) (by decide +kernel)
theorem n_X0_48 : Cond.methodLink RX0 48 yX0_planKnown ∈ bw := bw_t 536 (by decide +kernel) rfl
theorem n_X6_165 : Cond.methodLinkNest RX6 165 yX1_writeMinutes "CoastWatch" ∈ tables_1 := List.mem_of_getElem? (i := 548) (by decide +kernel)
theorem n_X1_34 : Cond.methodLink RX1 34 yX1_nextCall ∈ bw := bw_t 552 (by decide +kernel) rfl
theorem n_X1_47 : Cond.methodLink RX1 47 yX1_callMinute ∈ bw := bw_t 556 (by decide +kernel) rfl
theorem n_X1_51 : Cond.methodLinkNest RX1 51 yX0_isIn "CoastWatch" ∈ tables_1 := List.mem_of_getElem? (i := 560) (by decide +kernel)
theorem n_X1_55 : Cond.methodLinkNest RX1 55 yX0_firstOverdue "CoastWatch" ∈ tables_1 := List.mem_of_getElem? (i := 561) (by decide +kernel)
theorem n_X1_38 : Cond.methodLink RX1 38 yX1_writeMinute ∈ bw := bw_t 565 (by decide +kernel) rfl
theorem n_X1_59 : Cond.methodLink RX1 59 yX1_writeLine ∈ bw := bw_t 569 (by decide +kernel) rfl
theorem n_X6_169 : Cond.methodLinkNest RX6 169 yX1_partOf "CoastWatch" ∈ tables_1 := List.mem_of_getElem? (i := 577) (by decide +kernel)
theorem n_X1_63 : Cond.methodLink RX1 63 yJ9_min_7cf53 ∈ bw := bw_t 581 (by decide +kernel) rfl
theorem n_X1_69 : Cond.methodLinkNest RX1 69 yX6_isWithin "CoastWatch" ∈ tables_1 := List.mem_of_getElem? (i := 584) (by decide +kernel)
theorem n_X6_187 : Cond.methodLinkNest RX6 187 yX0_overdueAt "CoastWatch" ∈ tables_1 := List.mem_of_getElem? (i := 589) (by decide +kernel)
theorem n_X0_52 : Cond.methodLink RX0 52 yX0_firstOverdue ∈ bw := bw_t 593 (by decide +kernel) rfl
theorem n_X6_118 : Cond.methodLinkNest RX6 118 yX4_cornerPart "CoastWatch" ∈ tables_1 := List.mem_of_getElem? (i := 663) (by decide +kernel)
theorem n_X6_122 : Cond.methodLinkNest RX6 122 yX4_boxSide "CoastWatch" ∈ tables_1 := List.mem_of_getElem? (i := 674) (by decide +kernel)
theorem n_X7_94 : Cond.methodLink RX7 94 yX7_isPlace ∈ bw := bw_t 795 (by decide +kernel) rfl
theorem n_X7_87 : Cond.methodLink RX7 87 yX7_isIn ∈ bw := bw_t 798 (by decide +kernel) rfl
theorem n_X7_101 : Cond.methodLink RX7 101 yX7_seesAt ∈ bw := bw_t 813 (by decide +kernel) rfl
theorem n_X7_105 : Cond.methodLink RX7 105 yX7_seenBy ∈ bw := bw_t 821 (by decide +kernel) rfl
theorem n_X7_109 : Cond.methodLink RX7 109 yX7_bits ∈ bw := bw_t 825 (by decide +kernel) rfl
theorem n_X7_150 : Cond.methodLink RX7 150 yX7_meets ∈ bw := bw_t 840 (by decide +kernel) rfl
theorem n_X7_124 : Cond.methodLink RX7 124 yX7_isPair ∈ bw := bw_t 844 (by decide +kernel) rfl
theorem n_X7_119 : Cond.methodLink RX7 119 yX7_of ∈ bw := bw_t 848 (by decide +kernel) rfl
theorem n_X7_127 : Cond.methodLink RX7 127 yX7_bounds ∈ bw := bw_t 852 (by decide +kernel) rfl
theorem n_X7_134 : Cond.methodLink RX7 134 yX7_cross ∈ bw := bw_t 857 (by decide +kernel) rfl
theorem n_X7_137 : Cond.methodLink RX7 137 yX7_isWithin ∈ bw := bw_t 861 (by decide +kernel) rfl
theorem n_X7_141 : Cond.methodLink RX7 141 yX7_compare ∈ bw := bw_t 865 (by decide +kernel) rfl
theorem n_X7_145 : Cond.methodLink RX7 145 yJ13_compare_74951 ∈ bw := bw_t 869 (by decide +kernel) rfl
theorem n_X7_159 : Cond.methodLink RX7 159 yX7_common ∈ bw := bw_t 878 (by decide +kernel) rfl
theorem n_X7_153 : Cond.methodLink RX7 153 yJ9_abs_067f4 ∈ bw := bw_t 881 (by decide +kernel) rfl
theorem n_X7_172 : Cond.methodLink RX7 172 yX7_boxOf ∈ bw := bw_t 886 (by decide +kernel) rfl
theorem n_X7_163 : Cond.methodLink RX7 163 yJ9_floorDiv_f86c9 ∈ bw := bw_t 890 (by decide +kernel) rfl
theorem n_X7_166 : Cond.methodLink RX7 166 yJ9_min_f86c9 ∈ bw := bw_t 891 (by decide +kernel) rfl
theorem n_X7_169 : Cond.methodLink RX7 169 yJ9_max_f86c9 ∈ bw := bw_t 892 (by decide +kernel) rfl
theorem n_X7_181 : Cond.methodLink RX7 181 yX7_latest ∈ bw := bw_t 897 (by decide +kernel) rfl
theorem n_X7_184 : Cond.methodLink RX7 184 yX7_gap ∈ bw := bw_t 901 (by decide +kernel) rfl
theorem n_X7_191 : Cond.methodLink RX7 191 yJ9_min_7cf53 ∈ bw := bw_t 916 (by decide +kernel) rfl
theorem n_X7_202 : Cond.methodLink RX7 202 yX7_stands ∈ bw := bw_t 925 (by decide +kernel) rfl
theorem n_X7_199 : Cond.methodLink RX7 199 yX7_lastPlan ∈ bw := bw_t 929 (by decide +kernel) rfl
theorem n_X7_196 : Cond.methodLink RX7 196 yX7_ofPlan ∈ bw := bw_t 933 (by decide +kernel) rfl
theorem n_X7_206 : Cond.methodLink RX7 206 yX7_overdue ∈ bw := bw_t 945 (by decide +kernel) rfl
end
section
/-! A method's contract out of rz_run: entry, loops, calls. -/
def rz_args : Nat → List Value → rz_L
  | _, [] => []
  | i, v :: vs => match rz_two v with
    | true => (i, v) :: rz_args (i + 2) vs
    | false => (i, v) :: rz_args (i + 1) vs
theorem rz_args_l (adr : Nat → Nat) : ∀ (av : List Value) (i : Nat), lv_args i (av.map (rz_v adr)) = rz_l adr (rz_args i av)
  | [], _ => rfl
  | v :: vs, i => by
    show (i, rz_v adr v) :: lv_args (if (rz_v adr v).category = 2 then i + 2 else i + 1) (vs.map (rz_v adr)) = _
    rw [rz_cat]
    unfold rz_args
    cases h : rz_two v with
    | true =>
      show (i, rz_v adr v) :: lv_args (i + 2) (vs.map (rz_v adr)) = (i, rz_v adr v) :: rz_l adr (rz_args (i + 2) vs)
      rw [rz_args_l adr vs (i + 2)]
    | false =>
      show (i, rz_v adr v) :: lv_args (i + 1) (vs.map (rz_v adr)) = (i, rz_v adr v) :: rz_l adr (rz_args (i + 1) vs)
      rw [rz_args_l adr vs (i + 1)]
theorem rz_sl_len (adr : Nat → Nat) : ∀ av : List Value, (lg_sl (av.map (rz_v adr))).length = rz_words av
  | [] => rfl
  | v :: vs => by
    have h1 : lg_sl ((v :: vs).map (rz_v adr)) = (if (rz_v adr v).category = 2 then [.val (rz_v adr v), .second] else [.val (rz_v adr v)]) ++ lg_sl (vs.map (rz_v adr)) := by
      simp [lg_sl]
    rw [h1, List.length_append, rz_sl_len adr vs, rz_cat]
    show _ = match rz_two v with
      | true => rz_words vs + 2
      | false => rz_words vs + 1
    cases rz_two v with
    | true => show 2 + rz_words vs = rz_words vs + 2; omega
    | false => show 1 + rz_words vs = rz_words vs + 1; omega
section RZM
variable {p : Program} {l : Launch} {e : Env} {R : Room} {s : State} {m : MethodId} {args : Array Value} {below : List Frame} {meth : Method} {c : Code} {QQ : State → Prop}
theorem rz_run_sound {D : va_G} {cI cJ : ClassId} {A : Nat → Prop} {nL : Nat} {ks : List Nat} {RC RS : Nat} {adr0 : Nat → Nat} {own : String} {cc : ByteArray} {ret : Option FieldType} {bz : Bool} {cod : List (Nat × rz_I)} {fld : List (Nat × Nat × Nat × Bool)} {cal cav : List (Nat × rz_K)} {sw : List (Int32 × Nat)} {J : List (Nat × rz_J)} {Q : Option Value → rz_W → Prop} {Qc : Array Value → State → Outcome → State → Prop} {free : Addr → Prop}
    (hx : p.tables.exec = Jvm.exec) (hb : c.code = cc) (hlocks : meth.locks = false) (hml : c.maxLocals = nL) (hown : s.vm.findClass own = some m.cls) (hts : ∀ w ∈ bw, w.before args s = true) (hnw : rz_NW s) (hK : va_K D vwCl [(cI, .int), (cJ, .long)] s) (hA : ∀ q, s.heap.size ≤ q → A q) (hR : RC ≤ R.cells ∧ RS ≤ R.slots) (hr : meth.sig.returnType = ret)
    (hfld : ∀ ix q, rz_get fld ix = some q → rz_FOK own s args ix q) (hcal : ∀ ix ce, rz_get cal ix = some ce → rz_CallOK l R own cc (.invokestatic ix) ce) (hcav : ∀ ix ce, rz_get cav ix = some ce → rz_CallOK l R own cc (.invokevirtual ix) ce)
    (hfin : ∀ (adr : Nat → Nat) (lv : rz_L) (w : rz_W) (cs sl : Nat) (H : Heap) (locs : List Loc) (ls : Array Slot) (o : Option Value), rz_Rel D cI cJ A s nL ks RC RS adr0 adr lv w cs sl H locs ls → Q o w → (∀ q ∈ locs, free q.base) ∧ ∀ t : State, t.heap = H → s.WarmedH t.vm → Qc args s (.returned o) t)
    (hQQ : ∀ (H : Heap) (locs : List Loc) (g : JFrame), W p l e R s m args below meth c H locs RC RS (MQ below Qc args s RC RS free) g → W p l e R s m args below meth c H locs RC RS QQ g)
    (hrows : ∀ q ∈ cod, rz_row own cc nL ret bz sw q.1 q.2) {n0 : Nat}
    (hcut : ∀ k, k < n0 → ∀ pc j, rz_get J pc = some j → ∀ lv w, j.2 k lv w → rz_G p l e R s m args below meth c QQ D cI cJ A nL ks RC RS adr0 pc lv [] w RC RS) :
    ∀ n pc lv st w cs sl, rz_run cod fld cal cav sw bz RC RS J Q n0 n pc lv st w cs sl → rz_G p l e R s m args below meth c QQ D cI cJ A nL ks RC RS adr0 pc lv st w cs sl := by
  intro n
  induction n with
  | zero => intro pc lv st w cs sl h; exact h.elim
  | succ n ih =>
    intro pc lv st w cs sl h
    obtain ⟨⟨i, nx, tg, na, ci, cl⟩, hi, h⟩ := rz_op_s h
    refine rz_step (own := own) (ret := ret) hx hb hlocks hml hown hts hnw hK hA hR hr hfld hcal hcav hfin hQQ (hrows (pc, _) (rz_get_mem hi)) (fun pc lv st w cs sl hk => ?_) h
    cases hj : rz_get J pc with
    | none =>
      rw [hj] at hk
      exact ih pc lv st w cs sl hk
    | some j =>
      rw [hj] at hk
      match st, hk with
      | [], hk =>
        obtain ⟨k, hk1, hk2⟩ := hk
        intro adr H locs ls hrel
        obtain ⟨hP, hD, hS, hl, hkk, ⟨ex, e1, e2, e3⟩, hc1, hc2⟩ := hrel
        exact W.widen hc1 hc2 (hcut k hk1 pc j hj _ w hk2 adr H locs ls ⟨hP, hD, hS, rz_lv_keep j.1 hl, hkk, ⟨ex, e1, Nat.le_trans e2 hc1, e3⟩, Nat.le_refl _, Nat.le_refl _⟩)
theorem rz_loops {D : va_G} {cI cJ : ClassId} {A : Nat → Prop} {nL : Nat} {ks : List Nat} {RC RS : Nat} {adr0 : Nat → Nat} {own : String} {cc : ByteArray} {ret : Option FieldType} {bz : Bool} {cod : List (Nat × rz_I)} {fld : List (Nat × Nat × Nat × Bool)} {cal cav : List (Nat × rz_K)} {sw : List (Int32 × Nat)} {J : List (Nat × rz_J)} {Q : Option Value → rz_W → Prop} {Qc : Array Value → State → Outcome → State → Prop} {free : Addr → Prop}
    (hx : p.tables.exec = Jvm.exec) (hb : c.code = cc) (hlocks : meth.locks = false) (hml : c.maxLocals = nL) (hown : s.vm.findClass own = some m.cls) (hts : ∀ w ∈ bw, w.before args s = true) (hnw : rz_NW s) (hK : va_K D vwCl [(cI, .int), (cJ, .long)] s) (hA : ∀ q, s.heap.size ≤ q → A q) (hR : RC ≤ R.cells ∧ RS ≤ R.slots) (hr : meth.sig.returnType = ret)
    (hfld : ∀ ix q, rz_get fld ix = some q → rz_FOK own s args ix q) (hcal : ∀ ix ce, rz_get cal ix = some ce → rz_CallOK l R own cc (.invokestatic ix) ce) (hcav : ∀ ix ce, rz_get cav ix = some ce → rz_CallOK l R own cc (.invokevirtual ix) ce)
    (hfin : ∀ (adr : Nat → Nat) (lv : rz_L) (w : rz_W) (cs sl : Nat) (H : Heap) (locs : List Loc) (ls : Array Slot) (o : Option Value), rz_Rel D cI cJ A s nL ks RC RS adr0 adr lv w cs sl H locs ls → Q o w → (∀ q ∈ locs, free q.base) ∧ ∀ t : State, t.heap = H → s.WarmedH t.vm → Qc args s (.returned o) t)
    (hQQ : ∀ (H : Heap) (locs : List Loc) (g : JFrame), W p l e R s m args below meth c H locs RC RS (MQ below Qc args s RC RS free) g → W p l e R s m args below meth c H locs RC RS QQ g)
    (hrows : ∀ q ∈ cod, rz_row own cc nL ret bz sw q.1 q.2) {N : Nat}
    (hJ : ∀ q ∈ J, ∀ k lv w, q.2.2 k lv w → rz_run cod fld cal cav sw bz RC RS J Q k N q.1 lv [] w RC RS) :
    ∀ k pc j, rz_get J pc = some j → ∀ lv w, j.2 k lv w → rz_G p l e R s m args below meth c QQ D cI cJ A nL ks RC RS adr0 pc lv [] w RC RS := by
  intro k
  induction k using Nat.strongRecOn with
  | _ k ih =>
    intro pc j hj lv w hjk
    exact rz_run_sound (own := own) (ret := ret) hx hb hlocks hml hown hts hnw hK hA hR hr hfld hcal hcav hfin hQQ hrows (fun k' hk' pc' j' hj' lv' w' h' => ih k' hk' pc' j' hj' lv' w' h') N pc lv [] w RC RS (hJ (pc, j) (rz_get_mem hj) k lv w hjk)
end RZM
abbrev rz_room (d mc ms : Nat) : Room := { frames := d, cells := mc, slots := ms, locals := 40 * d }
def rz_Pre (D : va_G) (cI cJ : ClassId) (adr : Nat → Nat) (sz : Nat) (av : List Value) (w : rz_W) : Array Value → State → Prop := va_Pc (av.map (rz_v adr)) (fun U => U.heap.size = sz ∧ va_P D vwCl (rz_c cI cJ adr w) U.heap ∧ va_K D vwCl [(cI, .int), (cJ, .long)] U ∧ va_D (fun _ => True) (rz_c cI cJ adr w) ∧ rz_NW U)
/-- a method's contract: y of level d, by its callee's row -/
def rz_Con (l : Launch) (y : MethodName) (cc : ByteArray) (nL : Nat) (ret : Option FieldType) (d mc ms : Nat) (ce : rz_K) : Prop := ∀ (D : va_G) (cI cJ : ClassId) (adr : Nat → Nat) (sz : Nat) (av : List Value) (w : rz_W), av.length = ce.1 → w.map Prod.fst = ce.2.1 → ce.2.2.2.2.1 av w →
  Met l y (.code y cc nL ret :: bw) (rz_room d mc ms) (rz_Pre D cI cJ adr sz av w) (rz_Qc ce D cI cJ adr av w (va_A (rz_c cI cJ adr w) sz)) mc ms (va_A (rz_c cI cJ adr w) sz)
def rz_end (ce : rz_K) (av : List Value) (w : rz_W) : Option Value → rz_W → Prop := fun o w' => rz_kind ce.2.2.1 o ∧ (ce.2.2.2.1 = true → w' = w) ∧ ce.2.2.2.2.2 av w o w'
/-- what is to be shown of a method without new cells: entry, and each loop's head -/
def rz_VC (cod : List (Nat × rz_I)) (fld : List (Nat × Nat × Nat × Bool)) (cal cav : List (Nat × rz_K)) (sw : List (Int32 × Nat)) (bz : Bool) (nL : Nat) (ce : rz_K) : Prop := ∀ (av : List Value) (w : rz_W), av.length = ce.1 → w.map Prod.fst = ce.2.1 → ce.2.2.2.2.1 av w →
  rz_words av ≤ nL ∧ ∃ (J : List (Nat × rz_J)) (N n0 : Nat), (∀ q ∈ J, ∀ k lv w', q.2.2 k lv w' → rz_run cod fld cal cav sw bz 0 0 J (rz_end ce av w) k N q.1 lv [] w' 0 0) ∧ rz_run cod fld cal cav sw bz 0 0 J (rz_end ce av w) n0 N 0 (rz_args 0 av) [] w 0 0
/-- as the kit's Met.ofW, for a method that no entry of the table of natives runs instead -/
theorem rz_ofW {l : Launch} {y : MethodName} {ws ws' : List Cond} {rm : Room} {Pc : Array Value → State → Prop} {Qc : Array Value → State → Outcome → State → Prop} {mc ms : Nat} {free : Addr → Prop} {cc : ByteArray} {maxL : Nat} {ret : Option FieldType}
    (hy : plainFor y = true) (hw : ws = Cond.code y cc maxL ret :: ws')
    (body : ∀ p e s m args below meth c s₁, BodyLoose p l y (headSpec ws rm) cc maxL ret e s m args below meth c s₁ → c.maxLocals = maxL → Pc args s →
      W p l e (headSpec ws rm).room s m args below meth c s.heap [] 0 0 (MQ below Qc args s mc ms free) (entryFrame m args maxL)) : Met l y ws rm Pc Qc mc ms free := by
  refine MetFree.of_bodySF (code := cc) (maxLocals := maxL) (ret := ret) hy ?_ ?_
  · intro args s m h hn
    obtain ⟨meth, c, h1, h2, h3, h4, h5, h6, -, -⟩ := Cond.code_spec hn (atoms_spec (ws := ws) h _ (by rw [hw]; exact List.mem_cons_self))
    exact ⟨meth, c, h1, h2, h3, h4, h5, h6⟩
  · intro p e s m args below meth c s₁ B hml hP _
    have hh0 : s₁.heap = s.heap := by rw [B.state]; rfl
    obtain ⟨t, a1, o, b1, b2, b3⟩ := body p e s m args below meth c s₁ B hml hP s₁ hh0 (Stand.of_body B)
    exact ⟨t, o, a1, b1, b2, ⟨b3.1, b3.2⟩⟩
theorem rz_con {l : Launch} {y : MethodName} {cc : ByteArray} {nL d : Nat} {ret : Option FieldType} {bz : Bool} {cod : List (Nat × rz_I)} {fld : List (Nat × Nat × Nat × Bool)} {cal cav : List (Nat × rz_K)} {sw : List (Int32 × Nat)} {ce : rz_K}
    (hy : plainFor y = true) (hfld : rz_Fld y.cls fld) (hcal : ∀ q ∈ cal, rz_CallOK l (rz_room d 0 0) y.cls cc (.invokestatic q.1) q.2) (hcav : ∀ q ∈ cav, rz_CallOK l (rz_room d 0 0) y.cls cc (.invokevirtual q.1) q.2)
    (hrows : ∀ q ∈ cod, rz_row y.cls cc nL ret bz sw q.1 q.2) (hvc : rz_VC cod fld cal cav sw bz nL ce) : rz_Con l y cc nL ret d 0 0 ce := by
  intro D cI cJ adr sz av w hav hkeys hpre
  refine rz_ofW (cc := cc) (maxL := nL) (ret := ret) hy rfl ?_
  intro p e s m args below meth c s₁ B hml hv
  obtain ⟨hargs, hsz, hP, hK, hD0, hnw⟩ := hv
  subst hargs
  have hts0 := atoms_spec (ws := .code y cc nL ret :: bw) B.pre
  have hts : ∀ w ∈ bw, w.before (av.map (rz_v adr)).toArray s = true := fun w hw => hts0 w (List.mem_cons_of_mem _ hw)
  have hown : s.vm.findClass y.cls = some m.cls := findClass_of_methodNamed B.named
  subst hsz
  have hD := hD0.self (sz := s.heap.size)
  obtain ⟨hwd, J, N, n0, hJ, h0⟩ := hvc av w hav hkeys hpre
  have hl := lv_entry (av.map (rz_v adr)) (n := nL) (by rw [rz_sl_len]; exact hwd)
  rw [lg_entry_eq]
  rw [rz_args_l] at hl
  have hA : ∀ q : Nat, s.heap.size ≤ q → va_A (rz_c cI cJ adr w) s.heap.size q := fun q h => Or.inr h
  have hR : (0 : Nat) ≤ (rz_room d 0 0).cells ∧ 0 ≤ (rz_room d 0 0).slots := ⟨Nat.zero_le _, Nat.zero_le _⟩
  have hfin : ∀ (adr1 : Nat → Nat) (lv : rz_L) (w1 : rz_W) (cs sl : Nat) (H : Heap) (locs : List Loc) (ls : Array Slot) (o : Option Value), rz_Rel D cI cJ (va_A (rz_c cI cJ adr w) s.heap.size) s nL ce.2.1 0 0 adr adr1 lv w1 cs sl H locs ls → rz_end ce av w o w1 → (∀ q ∈ locs, va_A (rz_c cI cJ adr w) s.heap.size q.base) ∧ ∀ t : State, t.heap = H → s.WarmedH t.vm → rz_Qc ce D cI cJ adr av w (va_A (rz_c cI cJ adr w) s.heap.size) (av.map (rz_v adr)).toArray s (.returned o) t := by
    intro adr1 lv w1 cs sl H locs ls o hrel hq
    obtain ⟨g1, g2, g3, g4, g5, ⟨ex, g6, g7, g10⟩, g8, g9⟩ := hrel
    have hex : ex = [] := List.eq_nil_of_length_eq_zero (by omega)
    rw [hex, List.append_nil] at g6
    refine ⟨g3.2.2, fun t ht hW => ⟨⟨o, w1, rfl, hq.1, g6, hq.2.1, hq.2.2, ?_⟩, g3.F ht⟩⟩
    rw [ht]
    have hadr : adr1 = adr := funext (fun k => g10 k (by rw [hex]; exact List.not_mem_nil))
    rw [← hadr]
    exact g1
  have hG := rz_run_sound (own := y.cls) (ret := ret) (adr0 := adr) (ks := ce.2.1) (R := rz_room d 0 0) (e := e) (below := below) (free := va_A (rz_c cI cJ adr w) s.heap.size) B.exec B.bytes B.notSynchronized hml hown hts hnw hK hA hR B.returns (hfld s _ hts hnw) (fun ix ce9 h9 => hcal (ix, ce9) (rz_get_mem h9)) (fun ix ce9 h9 => hcav (ix, ce9) (rz_get_mem h9)) hfin (fun _ _ _ h => h) hrows (n0 := n0)
    (fun k _ pc j hj lv w9 hjk => rz_loops (own := y.cls) (ret := ret) (adr0 := adr) (ks := ce.2.1) (R := rz_room d 0 0) (e := e) (below := below) B.exec B.bytes B.notSynchronized hml hown hts hnw hK hA hR B.returns (hfld s _ hts hnw) (fun ix ce9 h9 => hcal (ix, ce9) (rz_get_mem h9)) (fun ix ce9 h9 => hcav (ix, ce9) (rz_get_mem h9)) hfin (fun _ _ _ h => h) hrows hJ k pc j hj lv w9 hjk) N 0 (rz_args 0 av) [] w 0 0 h0
  exact hG adr s.heap [] _ ⟨hP, rz_D.of_va hD, va_S.rf, hl, fun _ _ => rfl, ⟨[], by rw [hkeys, List.append_nil], Nat.le_refl _, fun _ _ => rfl⟩, Nat.le_refl _, Nat.le_refl _⟩
end
section
/-! Calls by contract; rows and fields by program. -/
theorem rz_blind {D : va_G} {cI cJ : ClassId} {adr : Nat → Nat} {sz : Nat} {av : List Value} {w : rz_W} : FrameBlind (rz_Pre D cI cJ adr sz av w) := fun a U g mk h => by
  obtain ⟨h1, h2, h3, h4, h5, h6⟩ := h
  exact ⟨h1, h2, h3, va_K.moved (u := U) (U := U.calling g mk a) (Vm.Alike.refl U.vm) h4, h5, rz_NW.same (u := U) (U := U.calling g mk a) rfl h6⟩
theorem rz_gcode {y : MethodName} {cc : ByteArray} {nL : Nat} {ret : Option FieldType} (h : Cond.code y cc nL ret ∈ bw) : GoodIn bw (.code y cc nL ret :: bw) := fun w hw => by
  rcases List.mem_cons.mp hw with z | z
  · rw [z]; exact ⟨h, Or.inl rfl⟩
  · exact bw_self w z
theorem rz_callS {l : Launch} {R : Room} {own : String} {cc cc' : ByteArray} {ix nL' d' : Nat} {y : MethodName} {ret' : Option FieldType} {ce : rz_K} (hcon : rz_Con l y cc' nL' ret' d' 0 0 ce) (hnd : ce.2.1.Nodup) (hR : d' + 1 ≤ R.frames ∧ 8 + (nL' + 11) + 40 * d' ≤ R.locals)
    (hm : rz_MW y cc' nL' ret' ce.1) (hst : Cond.static y ∈ bw) (hl : Cond.methodLink own ix y ∈ bw) : rz_CallOK l R own cc (.invokestatic ix) ce := by
  refine ⟨hnd, fun p e s m args below meth c H locs cs sl pc ls nL D cI cJ adr av rest w h1 h2 hx hb hml hown hts hnw hK hdg hsz hlen hrest hP hD hkeys hpre => ⟨_, va_runS ⟨hx, hb, hml, hown, hts⟩ (hcon D cI cJ adr H.size av w hlen hkeys hpre) ⟨callB_of ce.1 hts (rz_gcode hm.1) rfl rfl rfl (hts _ hm.2.1) (hts _ hl) hm.2.2 hR, hts _ hst⟩ ⟨rz_blind, fun U hU hW => ⟨rfl, by rw [hU], by rw [hU]; exact hP, va_K.moved hW.alike hK, hD, hnw.warm hW⟩⟩ rfl (by rw [List.length_map]; exact hlen) hsz rfl (lv_room hrest) hdg ⟨h1, h2⟩⟩⟩
theorem rz_callSN {l : Launch} {R : Room} {own : String} {cc cc' : ByteArray} {ix nL' d' : Nat} {y : MethodName} {ret' : Option FieldType} {ce : rz_K} (hcon : rz_Con l y cc' nL' ret' d' 0 0 ce) (hnd : ce.2.1.Nodup) (hR : d' + 1 ≤ R.frames ∧ 8 + (nL' + 11) + 40 * d' ≤ R.locals)
    (hm : rz_MW y cc' nL' ret' ce.1) (hst : Cond.static y ∈ bw) (hl : Cond.methodLinkNest own ix y "CoastWatch" ∈ tables_1) : rz_CallOK l R own cc (.invokestatic ix) ce := by
  refine ⟨hnd, fun p e s m args below meth c H locs cs sl pc ls nL D cI cJ adr av rest w h1 h2 hx hb hml hown hts hnw hK hdg hsz hlen hrest hP hD hkeys hpre => ⟨_, va_runSN ⟨hx, hb, hml, hown, hts⟩ (hcon D cI cJ adr H.size av w hlen hkeys hpre) ⟨va_cnB ce.1 hts (rz_gcode hm.1) rfl rfl rfl (hnw _ hl rfl) (hts _ hm.2.1) hm.2.2 hR, hts _ hst, trivial⟩ ⟨rz_blind, fun U hU hW => ⟨rfl, by rw [hU], by rw [hU]; exact hP, va_K.moved hW.alike hK, hD, hnw.warm hW⟩⟩ rfl (by rw [List.length_map]; exact hlen) hsz rfl (lv_room hrest) hdg ⟨h1, h2⟩⟩⟩
/-- the receiver: the first argument is an object of the method's class -/
def rz_Rv (C : String) (ce : rz_K) : Prop := ∀ (av : List Value) (w : rz_W), ce.2.2.2.2.1 av w → ∃ (k : Nat) (av' : List Value) (ci : Nat) (fs : List Value) (T : u_T) (N : Nat), av = .ref k :: av' ∧ rz_get w k = some (.inl (ci, fs)) ∧ vwCl[ci]? = some (C, T, N)
theorem rz_callV {l : Launch} {R : Room} {own : String} {cc cc' : ByteArray} {ix n nL' d' : Nat} {y : MethodName} {ret' : Option FieldType} {ce : rz_K} (hcon : rz_Con l y cc' nL' ret' d' 0 0 ce) (hnd : ce.2.1.Nodup) (hR : d' + 1 ≤ R.frames ∧ 8 + (nL' + 11) + 40 * d' ≤ R.locals)
    (hm : rz_MW y cc' nL' ret' n) (hn : ce.1 = n + 1) (hin : Cond.instanceMethod y ∈ bw) (hsel : Cond.selects y.cls y y ∈ bw) (hrv : rz_Rv y.cls ce) (hl : Cond.methodLink own ix y ∈ bw) : rz_CallOK l R own cc (.invokevirtual ix) ce := by
  refine ⟨hnd, fun p e s m args below meth c H locs cs sl pc ls nL D cI cJ adr av rest w h1 h2 hx hb hml hown hts hnw hK hdg hsz hlen hrest hP hD hkeys hpre => ?_⟩
  obtain ⟨k, av', ci, fs, T, N, e1, e2, e3⟩ := hrv av w hpre
  subst e1
  have hlen2 : av'.length = n := by rw [hn] at hlen; exact Nat.succ.inj hlen
  refine ⟨_, va_runV (As := av'.map (rz_v adr)) (b := adr k) ⟨hx, hb, hml, hown, hts⟩ (hcon D cI cJ adr H.size _ w hlen hkeys hpre) ⟨callB_of n hts (rz_gcode hm.1) rfl rfl rfl (hts _ hm.2.1) (hts _ hl) hm.2.2 hR, hts _ hin, hts _ hsel⟩ ⟨rz_blind, va_recv hK hP e3 (rz_get_pos e2), fun U hU hW => ⟨rfl, by rw [hU], by rw [hU]; exact hP, va_K.moved hW.alike hK, hD, hnw.warm hW⟩⟩ rfl (by rw [List.length_map]; exact hlen2) hsz (by simp [rz_v]) (lv_room hrest) hdg ⟨h1, h2⟩⟩
theorem rz_callVN {l : Launch} {R : Room} {own : String} {cc cc' : ByteArray} {ix n nL' d' : Nat} {y : MethodName} {ret' : Option FieldType} {ce : rz_K} (hcon : rz_Con l y cc' nL' ret' d' 0 0 ce) (hnd : ce.2.1.Nodup) (hR : d' + 1 ≤ R.frames ∧ 8 + (nL' + 11) + 40 * d' ≤ R.locals)
    (hm : rz_MW y cc' nL' ret' n) (hn : ce.1 = n + 1) (hin : Cond.instanceMethod y ∈ bw) (hsel : Cond.selects y.cls y y ∈ bw) (hrv : rz_Rv y.cls ce) (hl : Cond.methodLinkNest own ix y "CoastWatch" ∈ tables_1) : rz_CallOK l R own cc (.invokevirtual ix) ce := by
  refine ⟨hnd, fun p e s m args below meth c H locs cs sl pc ls nL D cI cJ adr av rest w h1 h2 hx hb hml hown hts hnw hK hdg hsz hlen hrest hP hD hkeys hpre => ?_⟩
  obtain ⟨k, av', ci, fs, T, N, e1, e2, e3⟩ := hrv av w hpre
  subst e1
  have hlen2 : av'.length = n := by rw [hn] at hlen; exact Nat.succ.inj hlen
  refine ⟨_, va_runVN (As := av'.map (rz_v adr)) (b := adr k) ⟨hx, hb, hml, hown, hts⟩ (hcon D cI cJ adr H.size _ w hlen hkeys hpre) ⟨va_cnB n hts (rz_gcode hm.1) rfl rfl rfl (hnw _ hl rfl) (hts _ hm.2.1) hm.2.2 hR, hts _ hin, hts _ hsel⟩ ⟨rz_blind, va_recv hK hP e3 (rz_get_pos e2), fun U hU hW => ⟨rfl, by rw [hU], by rw [hU]; exact hP, va_K.moved hW.alike hK, hD, hnw.warm hW⟩⟩ rfl (by rw [List.length_map]; exact hlen2) hsz (by simp [rz_v]) (lv_room hrest) hdg ⟨h1, h2⟩⟩
end
section
/-! Cells of the class and of the reference, by names; what a contract reads off arguments, answers and cells. -/
abbrev ro (ci : Nat) (fs : List Value) : rz_C := .inl (ci, fs)
abbrev ri (n : Nat) (f : Nat → Int32) : rz_C := .inr (.inl (n, f))
abbrev rl (n : Nat) (f : Nat → Int64) : rz_C := .inr (.inr (n, f))
def rA (av : List Value) (i : Nat) : Int32 := match av[i]? with
  | some (.int x) => x
  | _ => 0
def rB (av : List Value) (i : Nat) : Int64 := match av[i]? with
  | some (.long x) => x
  | _ => 0
def rR (o : Option Value) : Int32 := match o with
  | some (.int x) => x
  | _ => 0
def rS (o : Option Value) : Int64 := match o with
  | some (.long x) => x
  | _ => 0
def rF (w : rz_W) (k i : Nat) : Int32 := match rz_get w k with
  | some (.inl (_, fs)) => match fs[i]? with
    | some (.int x) => x
    | _ => 0
  | _ => 0
def rI (w : rz_W) (k : Nat) : Nat → Int32 := match rz_get w k with
  | some (.inr (.inl (_, f))) => f
  | _ => fun _ => 0
def rJ (w : rz_W) (k : Nat) : Nat → Int64 := match rz_get w k with
  | some (.inr (.inr (_, f))) => f
  | _ => fun _ => 0
abbrev bI (c : Prop) [Decidable c] : Int32 := if c then 1 else 0
abbrev oCW (now : Int32) : rz_C := ro 6 [.ref 1, .ref 9, .ref 17, .ref 27, .ref 37, .ref 44, .int now]
abbrev wLk (px py ph rx ry vi sp : Nat → Int32) (po re : Int32) : rz_W := [(1, ro 2 [.ref 2, .ref 3, .ref 4, .ref 5, .ref 6, .ref 7, .ref 8, .int po, .int re]), (2, ri 6 px), (3, ri 6 py), (4, ri 6 ph), (5, ri 8 rx), (6, ri 8 ry), (7, ri 334 vi), (8, ri 6 sp)]
abbrev kLk : List Nat := [1, 2, 3, 4, 5, 6, 7, 8]
abbrev wSg (fx fy mi ax ay bx b2 : Nat → Int32) (n : Int32) : rz_W := [(9, ro 5 [.ref 10, .ref 11, .ref 12, .ref 13, .ref 14, .ref 15, .ref 16, .int n]), (10, ri 100 fx), (11, ri 100 fy), (12, ri 100 mi), (13, ri 100 ax), (14, ri 100 ay), (15, ri 100 bx), (16, ri 100 b2)]
abbrev kSg : List Nat := [9, 10, 11, 12, 13, 14, 15, 16]
abbrev wSh (a b c ex ey tx lx ty ly : Nat → Int64) (co : Int32) : rz_W := [(17, ro 4 [.ref 18, .ref 19, .ref 20, .ref 21, .ref 22, .ref 23, .ref 24, .ref 25, .ref 26, .int co]), (18, rl 4 a), (19, rl 4 b), (20, rl 4 c), (21, rl 4 ex), (22, rl 4 ey), (23, rl 6 tx), (24, rl 6 lx), (25, rl 6 ty), (26, rl 6 ly)]
abbrev kSh : List Nat := [17, 18, 19, 20, 21, 22, 23, 24, 25, 26]
abbrev wPl (fi se mi tk le bo rg tp la : Nat → Int32) (sz tr sp : Int32) : rz_W := [(27, ro 3 [.ref 28, .ref 29, .ref 30, .ref 31, .ref 32, .ref 33, .ref 34, .ref 35, .ref 36, .int sz, .int tr, .int sp]), (28, ri 60 fi), (29, ri 60 se), (30, ri 60 mi), (31, ri 60 tk), (32, ri 60 le), (33, ri 60 bo), (34, ri 60 rg), (35, ri 60 tp), (36, ri 60 la)]
abbrev kPl : List Nat := [27, 28, 29, 30, 31, 32, 33, 34, 35, 36]
abbrev wBo (pb pl pe pt lp im : Nat → Int32) (pn sz : Int32) : rz_W := [(37, ro 0 [.ref 38, .ref 39, .ref 40, .ref 41, .ref 42, .ref 43, .int pn, .int sz]), (38, ri 100 pb), (39, ri 100 pl), (40, ri 100 pe), (41, ri 100 pt), (42, ri 30 lp), (43, ri 30 im)]
abbrev kBo : List Nat := [37, 38, 39, 40, 41, 42, 43]
abbrev wCl (de lb lr lm : Nat → Int32) (wr : Int32) : rz_W := [(44, ro 1 [.ref 45, .ref 46, .ref 47, .ref 48, .int wr]), (45, ri 5 de), (46, ri 300 lb), (47, ri 300 lr), (48, ri 300 lm)]
abbrev kCl : List Nat := [44, 45, 46, 47, 48]
abbrev oMo (th po re nw si pl tr bo pn ca sp co : Int32) : rz_C := ro 7 [.int th, .ref 51, .ref 52, .ref 53, .ref 54, .ref 55, .ref 56, .int po, .int re, .int nw, .int si, .int pl, .int tr, .int bo, .int pn, .int ca, .int sp, .ref 57, .ref 58, .ref 59, .ref 60, .ref 61, .ref 62, .ref 63, .ref 64, .ref 65, .ref 66, .ref 67, .ref 68, .ref 69, .ref 70, .ref 71, .ref 72, .int co, .ref 73]
theorem lg_lt0 (x y : Int64) : lg_cmp x y < 0 ↔ x < y := by
  unfold lg_cmp
  by_cases h1 : x > y
  · rw [if_pos h1]
    constructor
    · intro h; exact absurd h (by decide)
    · intro h; exact absurd h (lg_lt_not h1)
  · rw [if_neg h1]
    by_cases h2 : x = y
    · rw [if_pos h2]
      constructor
      · intro h; exact absurd h (by decide)
      · intro h; rw [h2] at h; exact absurd h (by simp [Int64.lt_iff_toInt_lt])
    · rw [if_neg h2]
      constructor
      · intro _
        have h3 : ¬ x.toInt = y.toInt := fun z => h2 (Int64.toInt_inj.mp z)
        have h4 : ¬ y.toInt < x.toInt := fun z => h1 (Int64.lt_iff_toInt_lt.mpr z)
        exact Int64.lt_iff_toInt_lt.mpr (by omega)
      · intro _; decide
theorem lg_eq0 (x y : Int64) : lg_cmp x y = 0 ↔ x = y := by
  unfold lg_cmp
  by_cases h1 : x > y
  · rw [if_pos h1]
    constructor
    · intro h; exact absurd h (by decide)
    · intro h; rw [h] at h1; exact absurd h1 (by simp [Int64.lt_iff_toInt_lt])
  · rw [if_neg h1]
    by_cases h2 : x = y
    · rw [if_pos h2]; exact ⟨fun _ => h2, fun _ => rfl⟩
    · rw [if_neg h2]
      constructor
      · intro h; exact absurd h (by decide)
      · intro h; exact absurd h h2
theorem lg_gt0 (x y : Int64) : 0 < lg_cmp x y ↔ y < x := by
  unfold lg_cmp
  by_cases h1 : x > y
  · rw [if_pos h1]; exact ⟨fun _ => h1, fun _ => by decide⟩
  · rw [if_neg h1]
    by_cases h2 : x = y
    · rw [if_pos h2]
      constructor
      · intro h; exact absurd h (by decide)
      · intro h; exact absurd h h1
    · rw [if_neg h2]
      constructor
      · intro h; exact absurd h (by decide)
      · intro h; exact absurd h h1
theorem i32_not_lt (a b : Int32) : ¬ a < b ↔ b ≤ a := by rw [Int32.lt_iff_toInt_lt, Int32.le_iff_toInt_le]; omega
theorem i32_not_le (a b : Int32) : ¬ a ≤ b ↔ b < a := by rw [Int32.lt_iff_toInt_lt, Int32.le_iff_toInt_le]; omega
theorem i64_not_lt (a b : Int64) : ¬ a < b ↔ b ≤ a := by rw [Int64.lt_iff_toInt_lt, Int64.le_iff_toInt_le]; omega
theorem i64_not_le (a b : Int64) : ¬ a ≤ b ↔ b < a := by rw [Int64.lt_iff_toInt_lt, Int64.le_iff_toInt_le]; omega
theorem lg_ge0 (x y : Int64) : 0 ≤ lg_cmp x y ↔ y ≤ x := by rw [← i32_not_lt, lg_lt0, i64_not_lt]
theorem lg_le0 (x y : Int64) : lg_cmp x y ≤ 0 ↔ x ≤ y := by rw [← i32_not_lt, lg_gt0, i64_not_lt]
end
section
/-! Leaves: tests of bounds, and the JDK's few. -/
theorem bI_01 (c : Prop) [Decidable c] : bI c = 0 ∨ bI c = 1 := by
  by_cases h : c
  · right; exact if_pos h
  · left; exact if_neg h
theorem bI_0 {c : Prop} [Decidable c] (h : bI c = 0) : ¬ c := fun z => by
  rw [bI, if_pos z] at h
  exact absurd h (by decide)
theorem bI_n {c : Prop} [Decidable c] (h : ¬ bI c = 0) : c := Decidable.byContradiction (fun z => h (if_neg z))
theorem bI_t {c : Prop} [Decidable c] (h : c) : (1 : Int32) = bI c := (if_pos h).symm
theorem bI_f {c : Prop} [Decidable c] (h : ¬ c) : (0 : Int32) = bI c := (if_neg h).symm
theorem if_no {c : Prop} [Decidable c] {A B : Prop} (hc : ¬ c) (h : B) : if c then A else B := by rw [if_neg hc]; exact h
theorem if_yes {c : Prop} [Decidable c] {A B : Prop} (hc : c) (h : A) : if c then A else B := by rw [if_pos hc]; exact h
theorem if_n {c : Prop} [Decidable c] {A B : Prop} (h : if c then A else B) (hc : ¬ c) : B := by rw [if_neg hc] at h; exact h
theorem if_y {c : Prop} [Decidable c] {A B : Prop} (h : if c then A else B) (hc : c) : A := by rw [if_pos hc] at h; exact h
theorem vp_of {j : Int32} {n : Nat} {m : Int32} (h0 : 0 ≤ j) (h1 : ¬ m ≤ j) (hm : m.toInt = (n : Int)) : vp_in j n := by
  rw [vp_in_iff]
  rw [Int32.le_iff_toInt_le] at h0 h1
  have : (0 : Int32).toInt = 0 := rfl
  omega
theorem vp_of2 {j : Int32} {n : Nat} {m : Int32} (h0 : 0 ≤ j) (h1 : j ≤ m) (hm : m.toInt + 1 = (n : Int)) : vp_in j n := by
  rw [vp_in_iff]
  rw [Int32.le_iff_toInt_le] at h0 h1
  have : (0 : Int32).toInt = 0 := rfl
  omega
def ce_X6_isWithin : rz_K := (3, [], 0, true, fun av w => ∃ a b c : Int32, av = [.int a, .int b, .int c] ∧ w = [] ∧ True, fun av _ o _ => rR o = bI (rA av 1 ≤ rA av 0 ∧ rA av 0 ≤ rA av 2))
theorem vc_X6_isWithin : rz_VC k_X6_isWithin fl_X6 [] [] s_X6_isWithin true 3 ce_X6_isWithin := by
  intro av w hlen hk hpre
  obtain ⟨a, b, c, rfl, rfl, -⟩ := hpre
  refine ⟨Nat.le_of_ble_eq_true rfl, [], 30, 0, fun q h => absurd h List.not_mem_nil, ?_⟩
  conv => whnf
  refine ⟨fun h => ?_, fun h => ?_⟩
  · exact ⟨Or.inl rfl, ⟨_, rfl⟩, fun _ => rfl, bI_f (fun z => absurd z.1 ((i32_not_le _ _).mpr h))⟩
  · conv => whnf
    refine ⟨fun h2 => ?_, fun h2 => ?_⟩
    · exact ⟨Or.inl rfl, ⟨_, rfl⟩, fun _ => rfl, bI_f (fun z => absurd z.2 ((i32_not_le _ _).mpr h2))⟩
    · exact ⟨Or.inr rfl, ⟨_, rfl⟩, fun _ => rfl, bI_t ⟨(i32_not_lt _ _).mp h, (i32_not_lt _ _).mp h2⟩⟩
theorem cn_X6_isWithin (l : Launch) : rz_Con l yX6_isWithin cX6_isWithin 3 (some .boolean) 0 0 0 ce_X6_isWithin := rz_con (by decide +kernel) fo_X6 (fun _ h => absurd h List.not_mem_nil) (fun _ h => absurd h List.not_mem_nil) r_X6_isWithin vc_X6_isWithin
def ce_X7_isIn : rz_K := (3, [], 0, true, fun av w => ∃ a b c : Int32, av = [.int a, .int b, .int c] ∧ w = [] ∧ True, fun av _ o _ => rR o = bI (rA av 1 ≤ rA av 0 ∧ rA av 0 ≤ rA av 2))
theorem vc_X7_isIn : rz_VC k_X7_isIn fl_X7 [] [] s_X7_isIn true 3 ce_X7_isIn := by
  intro av w hlen hk hpre
  obtain ⟨a, b, c, rfl, rfl, -⟩ := hpre
  refine ⟨Nat.le_of_ble_eq_true rfl, [], 30, 0, fun q h => absurd h List.not_mem_nil, ?_⟩
  conv => whnf
  refine ⟨fun h => ?_, fun h => ?_⟩
  · exact ⟨Or.inl rfl, ⟨_, rfl⟩, fun _ => rfl, bI_f (fun z => absurd z.1 ((i32_not_le _ _).mpr h))⟩
  · conv => whnf
    refine ⟨fun h2 => ?_, fun h2 => ?_⟩
    · exact ⟨Or.inl rfl, ⟨_, rfl⟩, fun _ => rfl, bI_f (fun z => absurd z.2 ((i32_not_le _ _).mpr h2))⟩
    · exact ⟨Or.inr rfl, ⟨_, rfl⟩, fun _ => rfl, bI_t ⟨(i32_not_lt _ _).mp h, (i32_not_lt _ _).mp h2⟩⟩
theorem cn_X7_isIn (l : Launch) : rz_Con l yX7_isIn cX7_isIn 3 (some .boolean) 0 0 0 ce_X7_isIn := rz_con (by decide +kernel) fo_X7 (fun _ h => absurd h List.not_mem_nil) (fun _ h => absurd h List.not_mem_nil) r_X7_isIn vc_X7_isIn
def ce_X6_isPlace : rz_K := (2, [], 0, true, fun av w => ∃ x y : Int32, av = [.int x, .int y] ∧ w = [] ∧ True, fun av _ o _ => rR o = bI (0 ≤ rA av 0 ∧ rA av 0 ≤ 2000 ∧ 0 ≤ rA av 1 ∧ rA av 1 ≤ 2000))
def cl_X6_isPlace : List (Nat × rz_K) := [(59, ce_X6_isWithin)]
def cv_X6_isPlace : List (Nat × rz_K) := []
theorem vc_X6_isPlace : rz_VC k_X6_isPlace fl_X6 cl_X6_isPlace cv_X6_isPlace s_X6_isPlace true 2 ce_X6_isPlace := by
  intro av w hlen hk hpre
  obtain ⟨x, y, rfl, rfl, -⟩ := hpre
  refine ⟨Nat.le_of_ble_eq_true rfl, [], 30, 0, fun q h => absurd h List.not_mem_nil, ?_⟩
  conv => whnf
  refine ⟨⟨_, _, _, rfl, rfl, trivial⟩, ?_⟩
  intro r hr
  obtain rfl : r = bI (0 ≤ x ∧ x ≤ 2000) := hr
  conv => whnf
  refine ⟨fun h => ?_, fun h => ?_⟩
  · exact ⟨Or.inl rfl, ⟨_, rfl⟩, fun _ => rfl, bI_f (fun z => bI_0 h ⟨z.1, z.2.1⟩)⟩
  · conv => whnf
    refine ⟨⟨_, _, _, rfl, rfl, trivial⟩, ?_⟩
    intro r hr
    obtain rfl : r = bI (0 ≤ y ∧ y ≤ 2000) := hr
    conv => whnf
    refine ⟨fun h2 => ?_, fun h2 => ?_⟩
    · exact ⟨Or.inl rfl, ⟨_, rfl⟩, fun _ => rfl, bI_f (fun z => bI_0 h2 z.2.2)⟩
    · exact ⟨Or.inr rfl, ⟨_, rfl⟩, fun _ => rfl, bI_t ⟨(bI_n h).1, (bI_n h).2, bI_n h2⟩⟩
theorem cn_X6_isPlace (l : Launch) : rz_Con l yX6_isPlace cX6_isPlace 2 (some .boolean) 1 0 0 ce_X6_isPlace := rz_con (by decide +kernel) fo_X6 (by
  intro q hq
  rcases List.mem_cons.mp hq with rfl | hq
  · exact rz_callS (cn_X6_isWithin l) (by decide +kernel) ⟨Nat.le_of_ble_eq_true rfl, Nat.le_of_ble_eq_true rfl⟩ m_X6_isWithin t_X6_isWithin n_X6_59
  exact absurd hq List.not_mem_nil) (fun _ h => absurd h List.not_mem_nil) r_X6_isPlace vc_X6_isPlace
def ce_X7_isPlace : rz_K := (2, [], 0, true, fun av w => ∃ x y : Int32, av = [.int x, .int y] ∧ w = [] ∧ True, fun av _ o _ => rR o = bI (0 ≤ rA av 0 ∧ rA av 0 ≤ 2000 ∧ 0 ≤ rA av 1 ∧ rA av 1 ≤ 2000))
def cl_X7_isPlace : List (Nat × rz_K) := [(87, ce_X7_isIn)]
def cv_X7_isPlace : List (Nat × rz_K) := []
theorem vc_X7_isPlace : rz_VC k_X7_isPlace fl_X7 cl_X7_isPlace cv_X7_isPlace s_X7_isPlace true 2 ce_X7_isPlace := by
  intro av w hlen hk hpre
  obtain ⟨x, y, rfl, rfl, -⟩ := hpre
  refine ⟨Nat.le_of_ble_eq_true rfl, [], 30, 0, fun q h => absurd h List.not_mem_nil, ?_⟩
  conv => whnf
  refine ⟨⟨_, _, _, rfl, rfl, trivial⟩, ?_⟩
  intro r hr
  obtain rfl : r = bI (0 ≤ x ∧ x ≤ 2000) := hr
  conv => whnf
  refine ⟨fun h => ?_, fun h => ?_⟩
  · exact ⟨Or.inl rfl, ⟨_, rfl⟩, fun _ => rfl, bI_f (fun z => bI_0 h ⟨z.1, z.2.1⟩)⟩
  · conv => whnf
    refine ⟨⟨_, _, _, rfl, rfl, trivial⟩, ?_⟩
    intro r hr
    obtain rfl : r = bI (0 ≤ y ∧ y ≤ 2000) := hr
    conv => whnf
    refine ⟨fun h2 => ?_, fun h2 => ?_⟩
    · exact ⟨Or.inl rfl, ⟨_, rfl⟩, fun _ => rfl, bI_f (fun z => bI_0 h2 z.2.2)⟩
    · exact ⟨Or.inr rfl, ⟨_, rfl⟩, fun _ => rfl, bI_t ⟨(bI_n h).1, (bI_n h).2, bI_n h2⟩⟩
theorem cn_X7_isPlace (l : Launch) : rz_Con l yX7_isPlace cX7_isPlace 2 (some .boolean) 1 0 0 ce_X7_isPlace := rz_con (by decide +kernel) fo_X7 (by
  intro q hq
  rcases List.mem_cons.mp hq with rfl | hq
  · exact rz_callS (cn_X7_isIn l) (by decide +kernel) ⟨Nat.le_of_ble_eq_true rfl, Nat.le_of_ble_eq_true rfl⟩ m_X7_isIn t_X7_isIn n_X7_87
  exact absurd hq List.not_mem_nil) (fun _ h => absurd h List.not_mem_nil) r_X7_isPlace vc_X7_isPlace
def ce_X6_isEdge : rz_K := (2, [], 0, true, fun av w => ∃ x y : Int32, av = [.int x, .int y] ∧ w = [] ∧ True, fun av _ o _ => rR o = bI (-50 ≤ rA av 0 ∧ rA av 0 ≤ 50 ∧ -50 ≤ rA av 1 ∧ rA av 1 ≤ 50))
def cl_X6_isEdge : List (Nat × rz_K) := [(59, ce_X6_isWithin)]
def cv_X6_isEdge : List (Nat × rz_K) := []
theorem vc_X6_isEdge : rz_VC k_X6_isEdge fl_X6 cl_X6_isEdge cv_X6_isEdge s_X6_isEdge true 2 ce_X6_isEdge := by
  intro av w hlen hk hpre
  obtain ⟨x, y, rfl, rfl, -⟩ := hpre
  refine ⟨Nat.le_of_ble_eq_true rfl, [], 30, 0, fun q h => absurd h List.not_mem_nil, ?_⟩
  conv => whnf
  refine ⟨⟨_, _, _, rfl, rfl, trivial⟩, ?_⟩
  intro r hr
  obtain rfl : r = bI (-50 ≤ x ∧ x ≤ 50) := hr
  conv => whnf
  refine ⟨fun h => ?_, fun h => ?_⟩
  · exact ⟨Or.inl rfl, ⟨_, rfl⟩, fun _ => rfl, bI_f (fun z => bI_0 h ⟨z.1, z.2.1⟩)⟩
  · conv => whnf
    refine ⟨⟨_, _, _, rfl, rfl, trivial⟩, ?_⟩
    intro r hr
    obtain rfl : r = bI (-50 ≤ y ∧ y ≤ 50) := hr
    conv => whnf
    refine ⟨fun h2 => ?_, fun h2 => ?_⟩
    · exact ⟨Or.inl rfl, ⟨_, rfl⟩, fun _ => rfl, bI_f (fun z => bI_0 h2 z.2.2)⟩
    · exact ⟨Or.inr rfl, ⟨_, rfl⟩, fun _ => rfl, bI_t ⟨(bI_n h).1, (bI_n h).2, bI_n h2⟩⟩
theorem cn_X6_isEdge (l : Launch) : rz_Con l yX6_isEdge cX6_isEdge 2 (some .boolean) 1 0 0 ce_X6_isEdge := rz_con (by decide +kernel) fo_X6 (by
  intro q hq
  rcases List.mem_cons.mp hq with rfl | hq
  · exact rz_callS (cn_X6_isWithin l) (by decide +kernel) ⟨Nat.le_of_ble_eq_true rfl, Nat.le_of_ble_eq_true rfl⟩ m_X6_isWithin t_X6_isWithin n_X6_59
  exact absurd hq List.not_mem_nil) (fun _ h => absurd h List.not_mem_nil) r_X6_isEdge vc_X6_isEdge
def ce_X6_isHour : rz_K := (1, [], 0, true, fun av w => ∃ x : Int32, av = [.int x] ∧ w = [] ∧ True, fun av _ o _ => rR o = bI (0 ≤ rA av 0 ∧ rA av 0 ≤ 333))
def cl_X6_isHour : List (Nat × rz_K) := [(59, ce_X6_isWithin)]
def cv_X6_isHour : List (Nat × rz_K) := []
theorem vc_X6_isHour : rz_VC k_X6_isHour fl_X6 cl_X6_isHour cv_X6_isHour s_X6_isHour true 1 ce_X6_isHour := by
  intro av w hlen hk hpre
  obtain ⟨x, rfl, rfl, -⟩ := hpre
  refine ⟨Nat.le_of_ble_eq_true rfl, [], 30, 0, fun q h => absurd h List.not_mem_nil, ?_⟩
  conv => whnf
  refine ⟨⟨_, _, _, rfl, rfl, trivial⟩, ?_⟩
  intro r hr
  obtain rfl : r = bI (0 ≤ x ∧ x ≤ 333) := hr
  conv => whnf
  exact ⟨bI_01 _, ⟨_, rfl⟩, fun _ => rfl, rfl⟩
theorem cn_X6_isHour (l : Launch) : rz_Con l yX6_isHour cX6_isHour 1 (some .boolean) 1 0 0 ce_X6_isHour := rz_con (by decide +kernel) fo_X6 (by
  intro q hq
  rcases List.mem_cons.mp hq with rfl | hq
  · exact rz_callS (cn_X6_isWithin l) (by decide +kernel) ⟨Nat.le_of_ble_eq_true rfl, Nat.le_of_ble_eq_true rfl⟩ m_X6_isWithin t_X6_isWithin n_X6_59
  exact absurd hq List.not_mem_nil) (fun _ h => absurd h List.not_mem_nil) r_X6_isHour vc_X6_isHour
def ce_X6_isMinute : rz_K := (1, [], 0, true, fun av w => ∃ x : Int32, av = [.int x] ∧ w = [] ∧ True, fun av _ o _ => rR o = bI (0 ≤ rA av 0 ∧ rA av 0 ≤ 20000))
def cl_X6_isMinute : List (Nat × rz_K) := [(59, ce_X6_isWithin)]
def cv_X6_isMinute : List (Nat × rz_K) := []
theorem vc_X6_isMinute : rz_VC k_X6_isMinute fl_X6 cl_X6_isMinute cv_X6_isMinute s_X6_isMinute true 1 ce_X6_isMinute := by
  intro av w hlen hk hpre
  obtain ⟨x, rfl, rfl, -⟩ := hpre
  refine ⟨Nat.le_of_ble_eq_true rfl, [], 30, 0, fun q h => absurd h List.not_mem_nil, ?_⟩
  conv => whnf
  refine ⟨⟨_, _, _, rfl, rfl, trivial⟩, ?_⟩
  intro r hr
  obtain rfl : r = bI (0 ≤ x ∧ x ≤ 20000) := hr
  conv => whnf
  exact ⟨bI_01 _, ⟨_, rfl⟩, fun _ => rfl, rfl⟩
theorem cn_X6_isMinute (l : Launch) : rz_Con l yX6_isMinute cX6_isMinute 1 (some .boolean) 1 0 0 ce_X6_isMinute := rz_con (by decide +kernel) fo_X6 (by
  intro q hq
  rcases List.mem_cons.mp hq with rfl | hq
  · exact rz_callS (cn_X6_isWithin l) (by decide +kernel) ⟨Nat.le_of_ble_eq_true rfl, Nat.le_of_ble_eq_true rfl⟩ m_X6_isWithin t_X6_isWithin n_X6_59
  exact absurd hq List.not_mem_nil) (fun _ h => absurd h List.not_mem_nil) r_X6_isMinute vc_X6_isMinute
-- the JDK's
abbrev iu (x : Int32) (n : Int32) : Int32 := (x.toUInt32 >>> (n.toUInt32 &&& Int32.toUInt32 31)).toInt32
def bc (i : Int32) : Int32 :=
  let a := i - (iu i 1 &&& 1431655765)
  let b := (a &&& 858993459) + (iu a 2 &&& 858993459)
  let c := (b + iu b 4) &&& 252645135
  let d := c + iu c 8
  let e := d + iu d 16
  e &&& 63
def ce_J6_bitCount_0f7a4 : rz_K := (1, [], 0, true, fun av w => ∃ x : Int32, av = [.int x] ∧ w = [] ∧ True, fun av _ o _ => rR o = bc (rA av 0))
theorem vc_J6_bitCount_0f7a4 : rz_VC k_J6_bitCount_0f7a4 fl_J6 [] [] s_J6_bitCount_0f7a4 false 1 ce_J6_bitCount_0f7a4 := by
  intro av w hlen hk hpre
  obtain ⟨x, rfl, rfl, -⟩ := hpre
  refine ⟨Nat.le_of_ble_eq_true rfl, [], 60, 0, fun q h => absurd h List.not_mem_nil, ?_⟩
  conv => whnf
  intro a ea
  conv => whnf
  intro b eb
  conv => whnf
  intro c ec
  conv => whnf
  intro d ed
  conv => whnf
  intro e ee
  conv => whnf
  refine ⟨⟨_, rfl⟩, fun _ => rfl, ?_⟩
  show e &&& 63 = bc x
  rw [ee, ed, ec, eb, ea]
  rfl
theorem cn_J6_bitCount_0f7a4 (l : Launch) : rz_Con l yJ6_bitCount_0f7a4 cJ6_bitCount_0f7a4 1 (some .int) 0 0 0 ce_J6_bitCount_0f7a4 := rz_con (by decide +kernel) fo_J6 (fun _ h => absurd h List.not_mem_nil) (fun _ h => absurd h List.not_mem_nil) r_J6_bitCount_0f7a4 vc_J6_bitCount_0f7a4
def ce_J13_compare_74951 : rz_K := (2, [], 0, true, fun av w => ∃ x y : Int64, av = [.long x, .long y] ∧ w = [] ∧ True, fun av _ o _ => rR o = lg_cmp (rB av 0) (rB av 1))
theorem vc_J13_compare_74951 : rz_VC k_J13_compare_74951 fl_J13 [] [] s_J13_compare_74951 false 4 ce_J13_compare_74951 := by
  intro av w hlen hk hpre
  obtain ⟨x, y, rfl, rfl, -⟩ := hpre
  refine ⟨Nat.le_of_ble_eq_true rfl, [], 60, 0, fun q h => absurd h List.not_mem_nil, ?_⟩
  conv => whnf
  refine ⟨fun h => ?_, fun h => ?_⟩
  · conv => whnf
    refine ⟨fun h2 => ?_, fun h2 => ?_⟩
    · refine ⟨⟨_, rfl⟩, fun _ => rfl, ?_⟩
      show (0 : Int32) = lg_cmp x y
      exact h2.symm
    · refine ⟨⟨_, rfl⟩, fun _ => rfl, ?_⟩
      show (1 : Int32) = lg_cmp x y
      have h3 : y < x := by
        have a := (lg_ge0 x y).mp h
        have b : ¬ x = y := fun z => h2 ((lg_eq0 x y).mpr z)
        rw [Int64.le_iff_toInt_le] at a
        rw [Int64.lt_iff_toInt_lt]
        have : ¬ x.toInt = y.toInt := fun z => b (Int64.toInt_inj.mp z)
        omega
      unfold lg_cmp
      rw [if_pos h3]
  · refine ⟨⟨_, rfl⟩, fun _ => rfl, ?_⟩
    show (-1 : Int32) = lg_cmp x y
    have h3 : x < y := (i64_not_le _ _).mp (fun z => h ((lg_ge0 x y).mpr z))
    unfold lg_cmp
    rw [if_neg (lg_lt_not h3), if_neg (fun z => by rw [z, Int64.lt_iff_toInt_lt] at h3; omega)]
theorem cn_J13_compare_74951 (l : Launch) : rz_Con l yJ13_compare_74951 cJ13_compare_74951 4 (some .int) 0 0 0 ce_J13_compare_74951 := rz_con (by decide +kernel) fo_J13 (fun _ h => absurd h List.not_mem_nil) (fun _ h => absurd h List.not_mem_nil) r_J13_compare_74951 vc_J13_compare_74951
def ce_J9_abs_067f4 : rz_K := (1, [], 1, true, fun av w => ∃ x : Int64, av = [.long x] ∧ w = [] ∧ True, fun av _ o _ => rS o = if 0 ≤ rB av 0 then rB av 0 else - rB av 0)
theorem vc_J9_abs_067f4 : rz_VC k_J9_abs_067f4 fl_J9 [] [] s_J9_abs_067f4 false 2 ce_J9_abs_067f4 := by
  intro av w hlen hk hpre
  obtain ⟨x, rfl, rfl, -⟩ := hpre
  refine ⟨Nat.le_of_ble_eq_true rfl, [], 60, 0, fun q h => absurd h List.not_mem_nil, ?_⟩
  conv => whnf
  refine ⟨fun h => ?_, fun h => ?_⟩
  · exact ⟨⟨_, rfl⟩, fun _ => rfl, (if_pos ((lg_ge0 x 0).mp h)).symm⟩
  · exact ⟨⟨_, rfl⟩, fun _ => rfl, (if_neg (fun z => h ((lg_ge0 x 0).mpr z))).symm⟩
theorem cn_J9_abs_067f4 (l : Launch) : rz_Con l yJ9_abs_067f4 cJ9_abs_067f4 2 (some .long) 0 0 0 ce_J9_abs_067f4 := rz_con (by decide +kernel) fo_J9 (fun _ h => absurd h List.not_mem_nil) (fun _ h => absurd h List.not_mem_nil) r_J9_abs_067f4 vc_J9_abs_067f4
def ce_J9_max_f86c9 : rz_K := (2, [], 1, true, fun av w => ∃ x y : Int64, av = [.long x, .long y] ∧ w = [] ∧ True, fun av _ o _ => rS o = if rB av 0 < rB av 1 then rB av 1 else rB av 0)
theorem vc_J9_max_f86c9 : rz_VC k_J9_max_f86c9 fl_J9 [] [] s_J9_max_f86c9 false 4 ce_J9_max_f86c9 := by
  intro av w hlen hk hpre
  obtain ⟨x, y, rfl, rfl, -⟩ := hpre
  refine ⟨Nat.le_of_ble_eq_true rfl, [], 60, 0, fun q h => absurd h List.not_mem_nil, ?_⟩
  conv => whnf
  refine ⟨fun h => ?_, fun h => ?_⟩
  · exact ⟨⟨_, rfl⟩, fun _ => rfl, (if_pos ((lg_lt0 x y).mp h)).symm⟩
  · exact ⟨⟨_, rfl⟩, fun _ => rfl, (if_neg (fun z => h ((lg_lt0 x y).mpr z))).symm⟩
theorem cn_J9_max_f86c9 (l : Launch) : rz_Con l yJ9_max_f86c9 cJ9_max_f86c9 4 (some .long) 0 0 0 ce_J9_max_f86c9 := rz_con (by decide +kernel) fo_J9 (fun _ h => absurd h List.not_mem_nil) (fun _ h => absurd h List.not_mem_nil) r_J9_max_f86c9 vc_J9_max_f86c9
def ce_J9_min_f86c9 : rz_K := (2, [], 1, true, fun av w => ∃ x y : Int64, av = [.long x, .long y] ∧ w = [] ∧ True, fun av _ o _ => rS o = if rB av 1 < rB av 0 then rB av 1 else rB av 0)
theorem vc_J9_min_f86c9 : rz_VC k_J9_min_f86c9 fl_J9 [] [] s_J9_min_f86c9 false 4 ce_J9_min_f86c9 := by
  intro av w hlen hk hpre
  obtain ⟨x, y, rfl, rfl, -⟩ := hpre
  refine ⟨Nat.le_of_ble_eq_true rfl, [], 60, 0, fun q h => absurd h List.not_mem_nil, ?_⟩
  conv => whnf
  refine ⟨fun h => ?_, fun h => ?_⟩
  · exact ⟨⟨_, rfl⟩, fun _ => rfl, (if_pos ((lg_gt0 x y).mp h)).symm⟩
  · exact ⟨⟨_, rfl⟩, fun _ => rfl, (if_neg (fun z => h ((lg_gt0 x y).mpr z))).symm⟩
theorem cn_J9_min_f86c9 (l : Launch) : rz_Con l yJ9_min_f86c9 cJ9_min_f86c9 4 (some .long) 0 0 0 ce_J9_min_f86c9 := rz_con (by decide +kernel) fo_J9 (fun _ h => absurd h List.not_mem_nil) (fun _ h => absurd h List.not_mem_nil) r_J9_min_f86c9 vc_J9_min_f86c9
def ce_J9_min_7cf53 : rz_K := (2, [], 0, true, fun av w => ∃ x y : Int32, av = [.int x, .int y] ∧ w = [] ∧ True, fun av _ o _ => rR o = if rA av 1 < rA av 0 then rA av 1 else rA av 0)
theorem vc_J9_min_7cf53 : rz_VC k_J9_min_7cf53 fl_J9 [] [] s_J9_min_7cf53 false 2 ce_J9_min_7cf53 := by
  intro av w hlen hk hpre
  obtain ⟨x, y, rfl, rfl, -⟩ := hpre
  refine ⟨Nat.le_of_ble_eq_true rfl, [], 60, 0, fun q h => absurd h List.not_mem_nil, ?_⟩
  conv => whnf
  refine ⟨fun h => ?_, fun h => ?_⟩
  · exact ⟨⟨_, rfl⟩, fun _ => rfl, (if_pos h).symm⟩
  · exact ⟨⟨_, rfl⟩, fun _ => rfl, (if_neg h).symm⟩
theorem cn_J9_min_7cf53 (l : Launch) : rz_Con l yJ9_min_7cf53 cJ9_min_7cf53 2 (some .int) 0 0 0 ce_J9_min_7cf53 := rz_con (by decide +kernel) fo_J9 (fun _ h => absurd h List.not_mem_nil) (fun _ h => absurd h List.not_mem_nil) r_J9_min_7cf53 vc_J9_min_7cf53
/-- floorDiv as the JDK has it -/
def fdv (x y : Int64) : Int64 := if x ^^^ y < 0 ∧ ¬ x / y * y = x then x / y - 1 else x / y
def ce_J9_floorDiv_f86c9 : rz_K := (2, [], 1, true, fun av w => ∃ x y : Int64, av = [.long x, .long y] ∧ w = [] ∧ ¬ y = 0, fun av _ o _ => rS o = fdv (rB av 0) (rB av 1))
theorem vc_J9_floorDiv_f86c9 : rz_VC k_J9_floorDiv_f86c9 fl_J9 [] [] s_J9_floorDiv_f86c9 false 6 ce_J9_floorDiv_f86c9 := by
  intro av w hlen hk hpre
  obtain ⟨x, y, rfl, rfl, hy⟩ := hpre
  refine ⟨Nat.le_of_ble_eq_true rfl, [], 60, 0, fun q h => absurd h List.not_mem_nil, ?_⟩
  conv => whnf
  refine ⟨hy, ?_⟩
  conv => whnf
  rintro _ rfl
  conv => whnf
  refine ⟨fun h => ?_, fun h => ?_⟩
  · refine ⟨⟨_, rfl⟩, fun _ => rfl, ?_⟩
    show x / y = fdv x y
    exact (if_neg (fun z => absurd z.1 ((i64_not_lt _ _).mpr ((lg_ge0 _ _).mp h)))).symm
  · have h' : x ^^^ y < 0 := (i64_not_le _ _).mp (fun z => h ((lg_ge0 _ _).mpr z))
    conv => whnf
    refine ⟨fun h2 => ?_, fun h2 => ?_⟩
    · refine ⟨⟨_, rfl⟩, fun _ => rfl, ?_⟩
      show x / y = fdv x y
      exact (if_neg (fun z => z.2 ((lg_eq0 _ _).mp h2))).symm
    · refine ⟨⟨_, rfl⟩, fun _ => rfl, ?_⟩
      show x / y - 1 = fdv x y
      exact (if_pos ⟨h', fun z => h2 ((lg_eq0 _ _).mpr z)⟩).symm
theorem cn_J9_floorDiv_f86c9 (l : Launch) : rz_Con l yJ9_floorDiv_f86c9 cJ9_floorDiv_f86c9 6 (some .long) 0 0 0 ce_J9_floorDiv_f86c9 := rz_con (by decide +kernel) fo_J9 (fun _ h => absurd h List.not_mem_nil) (fun _ h => absurd h List.not_mem_nil) r_J9_floorDiv_f86c9 vc_J9_floorDiv_f86c9
end
section
/-! Lookouts: posts, reaches, weather. -/
def ce_X2_hasPost : rz_K := (2, kLk, 0, true, fun av w => ∃ (px py ph rx ry vi sp : Nat → Int32) (po re p : Int32), av = [.ref 1, .int p] ∧ w = wLk px py ph rx ry vi sp po re ∧ True, fun av w o _ => rR o = bI (0 ≤ rA av 1 ∧ rA av 1 ≤ rF w 1 7 - 1))
def cl_X2_hasPost : List (Nat × rz_K) := [(46, ce_X6_isWithin)]
def cv_X2_hasPost : List (Nat × rz_K) := []
theorem vc_X2_hasPost : rz_VC k_X2_hasPost fl_X2 cl_X2_hasPost cv_X2_hasPost s_X2_hasPost true 2 ce_X2_hasPost := by
  intro av w hlen hk hpre
  obtain ⟨px, py, ph, rx, ry, vi, sp, po, re, p, rfl, rfl, -⟩ := hpre
  refine ⟨Nat.le_of_ble_eq_true rfl, [], 30, 0, fun q h => absurd h List.not_mem_nil, ?_⟩
  conv => whnf
  refine ⟨⟨_, _, _, rfl, rfl, trivial⟩, ?_⟩
  intro r hr
  conv => whnf
  refine ⟨?_, ⟨_, rfl⟩, fun _ => rfl, hr⟩
  rw [show r = _ from hr]
  exact bI_01 _
theorem rv_X2_hasPost : rz_Rv yX2_hasPost.cls ce_X2_hasPost := fun av w h => by
  obtain ⟨_, _, _, _, _, _, _, _, _, _, rfl, rfl, _⟩ := h
  exact ⟨_, _, _, _, _, _, rfl, rfl, rfl⟩
theorem cn_X2_hasPost (l : Launch) : rz_Con l yX2_hasPost cX2_hasPost 2 (some .boolean) 1 0 0 ce_X2_hasPost := rz_con (by decide +kernel) fo_X2 (by
  intro q hq
  rcases List.mem_cons.mp hq with rfl | hq
  · exact rz_callSN (cn_X6_isWithin l) (by decide +kernel) ⟨Nat.le_of_ble_eq_true rfl, Nat.le_of_ble_eq_true rfl⟩ m_X6_isWithin t_X6_isWithin n_X2_46
  exact absurd hq List.not_mem_nil) (fun _ h => absurd h List.not_mem_nil) r_X2_hasPost vc_X2_hasPost
abbrev sn (px py ph vi : Nat → Int32) (p : Nat) (x y : Int32) (h : Nat) : Prop := (px p - x) * (px p - x) + (py p - y) * (py p - y) ≤ vi h * vi h ∧ (px p - x) * (px p - x) + (py p - y) * (py p - y) ≤ 1274 * ph p
def ce_X2_isSeen : rz_K := (5, kLk, 0, true, fun av w => ∃ (px py ph rx ry vi sp : Nat → Int32) (po re p x y h : Int32), av = [.ref 1, .int p, .int x, .int y, .int h] ∧ w = wLk px py ph rx ry vi sp po re ∧ vp_in p 6 ∧ vp_in h 334, fun av w o _ => rR o = bI (sn (rI w 2) (rI w 3) (rI w 4) (rI w 7) (rA av 1).toNatClampNeg (rA av 2) (rA av 3) (rA av 4).toNatClampNeg))
def cl_X2_isSeen : List (Nat × rz_K) := []
def cv_X2_isSeen : List (Nat × rz_K) := []
theorem vc_X2_isSeen : rz_VC k_X2_isSeen fl_X2 cl_X2_isSeen cv_X2_isSeen s_X2_isSeen true 9 ce_X2_isSeen := by
  intro av w hlen hk hpre
  obtain ⟨px, py, ph, rx, ry, vi, sp, po, re, p, x, y, h, rfl, rfl, hp, hh⟩ := hpre
  refine ⟨Nat.le_of_ble_eq_true rfl, [], 60, 0, fun q h => absurd h List.not_mem_nil, ?_⟩
  conv => whnf
  refine ⟨hp, ?_⟩
  conv => whnf
  rintro dx rfl
  conv => whnf
  refine ⟨hp, ?_⟩
  conv => whnf
  rintro dy rfl
  conv => whnf
  rintro sq rfl
  conv => whnf
  refine ⟨hh, ?_⟩
  conv => whnf
  rintro far rfl
  conv => whnf
  refine ⟨fun h1 => ?_, fun h1 => ?_⟩
  · exact ⟨Or.inl rfl, ⟨_, rfl⟩, fun _ => rfl, (if_neg (fun z => absurd z.1 ((i32_not_le _ _).mpr h1))).symm⟩
  · conv => whnf
    refine ⟨hp, ?_⟩
    conv => whnf
    refine ⟨fun h2 => ?_, fun h2 => ?_⟩
    · exact ⟨Or.inl rfl, ⟨_, rfl⟩, fun _ => rfl, (if_neg (fun z => absurd z.2 ((i32_not_le _ _).mpr h2))).symm⟩
    · exact ⟨Or.inr rfl, ⟨_, rfl⟩, fun _ => rfl, (if_pos ⟨(i32_not_lt _ _).mp h1, (i32_not_lt _ _).mp h2⟩).symm⟩
theorem rv_X2_isSeen : rz_Rv yX2_isSeen.cls ce_X2_isSeen := fun av w h => by
  obtain ⟨_, _, _, _, _, _, _, _, _, _, _, _, _, rfl, rfl, _⟩ := h
  exact ⟨_, _, _, _, _, _, rfl, rfl, rfl⟩
theorem cn_X2_isSeen (l : Launch) : rz_Con l yX2_isSeen cX2_isSeen 9 (some .boolean) 0 0 0 ce_X2_isSeen := rz_con (by decide +kernel) fo_X2 (fun _ h => absurd h List.not_mem_nil) (fun _ h => absurd h List.not_mem_nil) r_X2_isSeen vc_X2_isSeen
def orR (f : Nat → Bool) : Nat → Int32
  | 0 => 0
  | n + 1 => if f n then orR f n ||| ((1 : Int32) <<< (nI n &&& 31)) else orR f n
def ce_X2_reachesSeenBy : rz_K := (3, kLk, 0, true, fun av w => ∃ (px py ph rx ry vi sp : Nat → Int32) (po p h : Int32) (n : Nat), av = [.ref 1, .int p, .int h] ∧ w = wLk px py ph rx ry vi sp po (nI n) ∧ vp_in p 6 ∧ vp_in h 334 ∧ n ≤ 8, fun av w o _ => rR o = orR (fun r => decide (sn (rI w 2) (rI w 3) (rI w 4) (rI w 7) (rA av 1).toNatClampNeg (rI w 5 r) (rI w 6 r) (rA av 2).toNatClampNeg)) (rF w 1 8).toNatClampNeg)
def cl_X2_reachesSeenBy : List (Nat × rz_K) := []
def cv_X2_reachesSeenBy : List (Nat × rz_K) := [(50, ce_X2_isSeen)]
theorem vc_X2_reachesSeenBy : rz_VC k_X2_reachesSeenBy fl_X2 cl_X2_reachesSeenBy cv_X2_reachesSeenBy s_X2_reachesSeenBy false 5 ce_X2_reachesSeenBy := by
  intro av w hlen hk hpre
  obtain ⟨px, py, ph, rx, ry, vi, sp, po, p, h, n, rfl, rfl, hp, hh, hn⟩ := hpre
  refine ⟨Nat.le_of_ble_eq_true rfl, [(5, [0, 1, 2, 3, 4], fun k lv w' => ∃ r : Nat, r ≤ n ∧ lv = [(0, .ref 1), (1, .int p), (2, .int h), (3, .int (orR (fun r => decide (sn px py ph vi p.toNatClampNeg (rx r) (ry r) h.toNatClampNeg)) r)), (4, .int (nI r))] ∧ w' = wLk px py ph rx ry vi sp po (nI n) ∧ k = n - r)], 60, n + 1, ?_, ?_⟩
  · intro q hq k lv w' hj
    rcases List.mem_cons.mp hq with rfl | hq
    · obtain ⟨r, hr, rfl, rfl, rfl⟩ := hj
      conv => whnf
      refine ⟨fun c => ?_, fun c => ?_⟩
      · have e : r = n := by
          have := (nI_leI (by omega) (by omega)).mp c
          omega
        subst e
        refine ⟨⟨_, rfl⟩, fun _ => rfl, ?_⟩
        show orR _ r = orR _ (nI r).toNatClampNeg
        rw [nI_clamp (by omega)]
        rfl
      · have hr2 : r < n := by
          rcases Nat.lt_or_ge r n with z | z
          · exact z
          · exact absurd (nI_le z (by omega)) c
        have hv : vp_in (nI r) 8 := vp_in_nI (by omega) (by omega)
        conv => whnf
        refine ⟨hv, ?_⟩
        conv => whnf
        refine ⟨hv, ?_⟩
        conv => whnf
        refine ⟨⟨px, py, ph, rx, ry, vi, sp, po, nI n, p, _, _, h, rfl, rfl, hp, hh⟩, ?_⟩
        intro b hb
        have hb : b = bI (sn px py ph vi p.toNatClampNeg (rx (nI r).toNatClampNeg) (ry (nI r).toNatClampNeg) h.toNatClampNeg) := hb
        rw [nI_clamp (by omega)] at hb
        conv => whnf
        refine ⟨fun c2 => ?_, fun c2 => ?_⟩
        · conv => whnf
          rintro v rfl
          conv => whnf
          refine ⟨n - (r + 1), by omega, r + 1, by omega, ?_, rfl, rfl⟩
          have hs : ¬ sn px py ph vi p.toNatClampNeg (rx r) (ry r) h.toNatClampNeg := fun z => by
            rw [hb, bI, if_pos z] at c2
            exact absurd c2 (by decide)
          show [_, _, _, (3, Value.int (orR _ r)), (4, Value.int (nI r + 1))] = [_, _, _, (3, Value.int (orR _ (r + 1))), (4, Value.int (nI (r + 1)))]
          rw [nI_1, orR, if_neg (by simpa using hs)]
        · conv => whnf
          rintro v rfl
          conv => whnf
          rintro v rfl
          conv => whnf
          refine ⟨n - (r + 1), by omega, r + 1, by omega, ?_, rfl, rfl⟩
          have hs : sn px py ph vi p.toNatClampNeg (rx r) (ry r) h.toNatClampNeg := Decidable.byContradiction (fun z => by
            rw [hb, bI, if_neg z] at c2
            exact absurd rfl c2)
          show [_, _, _, (3, Value.int (orR _ r ||| _)), (4, Value.int (nI r + 1))] = [_, _, _, (3, Value.int (orR _ (r + 1))), (4, Value.int (nI (r + 1)))]
          rw [nI_1, orR, if_pos (by simpa using hs)]
    · exact absurd hq List.not_mem_nil
  · conv => whnf
    rintro v rfl
    conv => whnf
    rintro v rfl
    conv => whnf
    exact ⟨n, by omega, 0, by omega, rfl, rfl, rfl⟩
theorem rv_X2_reachesSeenBy : rz_Rv yX2_reachesSeenBy.cls ce_X2_reachesSeenBy := fun av w h => by
  obtain ⟨_, _, _, _, _, _, _, _, _, _, _, rfl, rfl, _⟩ := h
  exact ⟨_, _, _, _, _, _, rfl, rfl, rfl⟩
theorem cn_X2_reachesSeenBy (l : Launch) : rz_Con l yX2_reachesSeenBy cX2_reachesSeenBy 5 (some .int) 1 0 0 ce_X2_reachesSeenBy := rz_con (by decide +kernel) fo_X2 (fun _ h => absurd h List.not_mem_nil) (by
  intro q hq
  rcases List.mem_cons.mp hq with rfl | hq
  · exact rz_callV (cn_X2_isSeen l) (by decide +kernel) ⟨Nat.le_of_ble_eq_true rfl, Nat.le_of_ble_eq_true rfl⟩ m_X2_isSeen rfl i_X2_isSeen v_X2_isSeen rv_X2_isSeen n_X2_50
  exact absurd hq List.not_mem_nil) r_X2_reachesSeenBy vc_X2_reachesSeenBy
def sb (px py ph vi rx ry : Nat → Int32) (m hN p : Nat) : Int32 := orR (fun r => decide (sn px py ph vi p (rx r) (ry r) hN)) m
def sbw (w : rz_W) (h : Int32) (p : Nat) : Int32 := sb (rI w 2) (rI w 3) (rI w 4) (rI w 7) (rI w 5) (rI w 6) (rF w 1 8).toNatClampNeg h.toNatClampNeg p
def orP (f : Nat → Int32) : Nat → Int32
  | 0 => 0
  | n + 1 => orP f n ||| f n
def fl (f sp : Nat → Int32) : Nat → Nat → Int32
  | 0 => sp
  | n + 1 => upd (fl f sp n) n (f n)
def ce_X2_reachesSeen : rz_K := (2, kLk, 0, false, fun av w => ∃ (px py ph rx ry vi sp : Nat → Int32) (h : Int32) (n m : Nat), av = [.ref 1, .int h] ∧ w = wLk px py ph rx ry vi sp (nI n) (nI m) ∧ vp_in h 334 ∧ n ≤ 6 ∧ m ≤ 8, fun av w o w' => rR o = orP (sbw w (rA av 1)) (rF w 1 7).toNatClampNeg ∧ w' = rz_set w 8 (ri 6 (fl (sbw w (rA av 1)) (rI w 8) (rF w 1 7).toNatClampNeg)))
def cl_X2_reachesSeen : List (Nat × rz_K) := []
def cv_X2_reachesSeen : List (Nat × rz_K) := [(54, ce_X2_reachesSeenBy)]
theorem vc_X2_reachesSeen : rz_VC k_X2_reachesSeen fl_X2 cl_X2_reachesSeen cv_X2_reachesSeen s_X2_reachesSeen false 4 ce_X2_reachesSeen := by
  intro av w hlen hk hpre
  obtain ⟨px, py, ph, rx, ry, vi, sp, h, n, m, rfl, rfl, hh, hn, hm⟩ := hpre
  generalize hf : sbw (wLk px py ph rx ry vi sp (nI n) (nI m)) h = f
  have hf2 : ∀ p, f p = orR (fun r => decide (sn px py ph vi p (rx r) (ry r) h.toNatClampNeg)) m := fun p => by
    rw [← hf]
    show orR _ (nI m).toNatClampNeg = _
    rw [nI_clamp (by omega)]
    rfl
  refine ⟨Nat.le_of_ble_eq_true rfl, [(4, [0, 1, 2, 3], fun k lv w' => ∃ i : Nat, i ≤ n ∧ lv = [(0, .ref 1), (1, .int h), (2, .int (orP f i)), (3, .int (nI i))] ∧ w' = wLk px py ph rx ry vi (fl f sp i) (nI n) (nI m) ∧ k = n - i)], 60, n + 1, ?_, ?_⟩
  · intro q hq k lv w' hj
    rcases List.mem_cons.mp hq with rfl | hq
    · obtain ⟨i, hi, rfl, rfl, rfl⟩ := hj
      conv => whnf
      refine ⟨fun c => ?_, fun c => ?_⟩
      · have e : i = n := by
          have := (nI_leI (by omega) (by omega)).mp c
          omega
        subst e
        refine ⟨⟨_, rfl⟩, fun z => (by cases z), ?_, ?_⟩
        · show orP f i = orP (sbw (wLk px py ph rx ry vi sp (nI i) (nI m)) h) (nI i).toNatClampNeg
          rw [hf, nI_clamp (by omega)]
        · show wLk px py ph rx ry vi (fl f sp i) (nI i) (nI m) = wLk px py ph rx ry vi (fl (sbw (wLk px py ph rx ry vi sp (nI i) (nI m)) h) sp (nI i).toNatClampNeg) (nI i) (nI m)
          rw [hf, nI_clamp (by omega)]
      · have hi2 : i < n := by
          rcases Nat.lt_or_ge i n with z | z
          · exact z
          · exact absurd (nI_le z (by omega)) c
        have hv : vp_in (nI i) 6 := vp_in_nI (by omega) (by omega)
        conv => whnf
        refine ⟨⟨px, py, ph, rx, ry, vi, fl f sp i, nI n, nI i, h, m, rfl, rfl, hv, hh, hm⟩, ?_⟩
        intro r hr
        have hr : r = orR (fun r => decide (sn px py ph vi (nI i).toNatClampNeg (rx r) (ry r) h.toNatClampNeg)) (nI m).toNatClampNeg := hr
        rw [nI_clamp (by omega), nI_clamp (by omega), ← hf2] at hr
        subst hr
        conv => whnf
        refine ⟨hv, ?_⟩
        conv => whnf
        refine ⟨hv, ?_⟩
        conv => whnf
        rintro _ rfl
        conv => whnf
        rintro _ rfl
        conv => whnf
        refine ⟨n - (i + 1), by omega, i + 1, by omega, ?_, ?_, rfl⟩
        · show [_, _, (2, Value.int (orP f i ||| upd (fl f sp i) (nI i).toNatClampNeg (f i) (nI i).toNatClampNeg)), (3, Value.int (nI i + 1))] = [_, _, (2, Value.int (orP f (i + 1))), (3, Value.int (nI (i + 1)))]
          rw [nI_1, pk_us]
          rfl
        · show wLk px py ph rx ry vi (upd (fl f sp i) (nI i).toNatClampNeg (f i)) (nI n) (nI m) = _
          rw [nI_clamp (by omega)]
          rfl
    · exact absurd hq List.not_mem_nil
  · conv => whnf
    rintro _ rfl
    conv => whnf
    rintro _ rfl
    conv => whnf
    refine ⟨n, by omega, 0, by omega, rfl, rfl, rfl⟩
theorem rv_X2_reachesSeen : rz_Rv yX2_reachesSeen.cls ce_X2_reachesSeen := fun av w h => by
  obtain ⟨_, _, _, _, _, _, _, _, _, _, rfl, rfl, _⟩ := h
  exact ⟨_, _, _, _, _, _, rfl, rfl, rfl⟩
theorem cn_X2_reachesSeen (l : Launch) : rz_Con l yX2_reachesSeen cX2_reachesSeen 4 (some .int) 2 0 0 ce_X2_reachesSeen := rz_con (by decide +kernel) fo_X2 (fun _ h => absurd h List.not_mem_nil) (by
  intro q hq
  rcases List.mem_cons.mp hq with rfl | hq
  · exact rz_callV (cn_X2_reachesSeenBy l) (by decide +kernel) ⟨Nat.le_of_ble_eq_true rfl, Nat.le_of_ble_eq_true rfl⟩ m_X2_reachesSeenBy rfl i_X2_reachesSeenBy v_X2_reachesSeenBy rv_X2_reachesSeenBy n_X2_54
  exact absurd hq List.not_mem_nil) r_X2_reachesSeen vc_X2_reachesSeen
theorem rz_shl1 : ∀ n, n < 9 → (1 : Int32) <<< (nI n &&& 31) = nI (2 ^ n) ∧ (1 : Int32) <<< (nI n &&& 31) - 1 = nI (2 ^ n - 1) := by decide
def ce_X2_reachesUnseen : rz_K := (2, kLk, 0, false, fun av w => ∃ (px py ph rx ry vi sp : Nat → Int32) (h : Int32) (n m : Nat), av = [.ref 1, .int h] ∧ w = wLk px py ph rx ry vi sp (nI n) (nI m) ∧ vp_in h 334 ∧ n ≤ 6 ∧ m ≤ 8, fun av w o w' => rR o = ((1 : Int32) <<< (rF w 1 8 &&& 31) - 1) &&& (orP (sbw w (rA av 1)) (rF w 1 7).toNatClampNeg ^^^ (-1)) ∧ w' = rz_set w 8 (ri 6 (fl (sbw w (rA av 1)) (rI w 8) (rF w 1 7).toNatClampNeg)))
def cl_X2_reachesUnseen : List (Nat × rz_K) := []
def cv_X2_reachesUnseen : List (Nat × rz_K) := [(58, ce_X2_reachesSeen)]
theorem vc_X2_reachesUnseen : rz_VC k_X2_reachesUnseen fl_X2 cl_X2_reachesUnseen cv_X2_reachesUnseen s_X2_reachesUnseen false 2 ce_X2_reachesUnseen := by
  intro av w hlen hk hpre
  obtain ⟨px, py, ph, rx, ry, vi, sp, h, n, m, rfl, rfl, hh, hn, hm⟩ := hpre
  refine ⟨Nat.le_of_ble_eq_true rfl, [], 30, 0, fun q h => absurd h List.not_mem_nil, ?_⟩
  conv => whnf
  refine ⟨⟨px, py, ph, rx, ry, vi, sp, h, n, m, rfl, rfl, hh, hn, hm⟩, ?_⟩
  intro r w' hr
  obtain ⟨hr, rfl⟩ := hr
  conv => whnf
  refine ⟨⟨_, rfl⟩, fun z => (by cases z), ?_, rfl⟩
  show ((1 : Int32) <<< (nI m &&& 31) - 1) &&& (r ^^^ (-1)) = _
  rw [show r = _ from hr]
  rfl
theorem rv_X2_reachesUnseen : rz_Rv yX2_reachesUnseen.cls ce_X2_reachesUnseen := fun av w h => by
  obtain ⟨_, _, _, _, _, _, _, _, _, _, rfl, rfl, _⟩ := h
  exact ⟨_, _, _, _, _, _, rfl, rfl, rfl⟩
theorem cn_X2_reachesUnseen (l : Launch) : rz_Con l yX2_reachesUnseen cX2_reachesUnseen 2 (some .int) 3 0 0 ce_X2_reachesUnseen := rz_con (by decide +kernel) fo_X2 (fun _ h => absurd h List.not_mem_nil) (by
  intro q hq
  rcases List.mem_cons.mp hq with rfl | hq
  · exact rz_callV (cn_X2_reachesSeen l) (by decide +kernel) ⟨Nat.le_of_ble_eq_true rfl, Nat.le_of_ble_eq_true rfl⟩ m_X2_reachesSeen rfl i_X2_reachesSeen v_X2_reachesSeen rv_X2_reachesSeen n_X2_58
  exact absurd hq List.not_mem_nil) r_X2_reachesUnseen vc_X2_reachesUnseen
def orS (set : Int32) (f : Nat → Int32) : Nat → Int32
  | 0 => 0
  | n + 1 => if (set >>> (nI n &&& 31)) &&& 1 = 1 then orS set f n ||| f n else orS set f n
def ce_X2_seenBySet : rz_K := (2, kLk, 0, true, fun av w => ∃ (px py ph rx ry vi sp : Nat → Int32) (re t : Int32) (n : Nat), av = [.ref 1, .int t] ∧ w = wLk px py ph rx ry vi sp (nI n) re ∧ n ≤ 6, fun av w o _ => rR o = orS (rA av 1) (rI w 8) (rF w 1 7).toNatClampNeg)
def cl_X2_seenBySet : List (Nat × rz_K) := []
def cv_X2_seenBySet : List (Nat × rz_K) := []
theorem vc_X2_seenBySet : rz_VC k_X2_seenBySet fl_X2 cl_X2_seenBySet cv_X2_seenBySet s_X2_seenBySet false 4 ce_X2_seenBySet := by
  intro av w hlen hk hpre
  obtain ⟨px, py, ph, rx, ry, vi, sp, re, t, n, rfl, rfl, hn⟩ := hpre
  refine ⟨Nat.le_of_ble_eq_true rfl, [(4, [0, 1, 2, 3], fun k lv w' => ∃ i : Nat, i ≤ n ∧ lv = [(0, .ref 1), (1, .int t), (2, .int (orS t sp i)), (3, .int (nI i))] ∧ w' = wLk px py ph rx ry vi sp (nI n) re ∧ k = n - i)], 60, n + 1, ?_, ?_⟩
  · intro q hq k lv w' hj
    rcases List.mem_cons.mp hq with rfl | hq
    · obtain ⟨i, hi, rfl, rfl, rfl⟩ := hj
      conv => whnf
      refine ⟨fun c => ?_, fun c => ?_⟩
      · have e : i = n := by
          have := (nI_leI (by omega) (by omega)).mp c
          omega
        subst e
        refine ⟨⟨_, rfl⟩, fun _ => rfl, ?_⟩
        show orS t sp i = orS t sp (nI i).toNatClampNeg
        rw [nI_clamp (by omega)]
      · have hi2 : i < n := by
          rcases Nat.lt_or_ge i n with z | z
          · exact z
          · exact absurd (nI_le z (by omega)) c
        have hv : vp_in (nI i) 6 := vp_in_nI (by omega) (by omega)
        conv => whnf
        refine ⟨fun c2 => ?_, fun c2 => ?_⟩
        · conv => whnf
          refine ⟨hv, ?_⟩
          conv => whnf
          rintro _ rfl
          conv => whnf
          rintro _ rfl
          conv => whnf
          refine ⟨n - (i + 1), by omega, i + 1, by omega, ?_, rfl, rfl⟩
          show [_, _, (2, Value.int (orS t sp i ||| sp (nI i).toNatClampNeg)), (3, Value.int (nI i + 1))] = [_, _, (2, Value.int (orS t sp (i + 1))), (3, Value.int (nI (i + 1)))]
          rw [nI_1, nI_clamp (by omega), orS, if_pos c2]
        · conv => whnf
          rintro _ rfl
          conv => whnf
          refine ⟨n - (i + 1), by omega, i + 1, by omega, ?_, rfl, rfl⟩
          show [_, _, (2, Value.int (orS t sp i)), (3, Value.int (nI i + 1))] = [_, _, (2, Value.int (orS t sp (i + 1))), (3, Value.int (nI (i + 1)))]
          rw [nI_1, orS, if_neg c2]
    · exact absurd hq List.not_mem_nil
  · conv => whnf
    rintro _ rfl
    conv => whnf
    rintro _ rfl
    conv => whnf
    refine ⟨n, by omega, 0, by omega, rfl, rfl, rfl⟩
theorem rv_X2_seenBySet : rz_Rv yX2_seenBySet.cls ce_X2_seenBySet := fun av w h => by
  obtain ⟨_, _, _, _, _, _, _, _, _, _, rfl, rfl, _⟩ := h
  exact ⟨_, _, _, _, _, _, rfl, rfl, rfl⟩
theorem cn_X2_seenBySet (l : Launch) : rz_Con l yX2_seenBySet cX2_seenBySet 4 (some .int) 0 0 0 ce_X2_seenBySet := rz_con (by decide +kernel) fo_X2 (fun _ h => absurd h List.not_mem_nil) (fun _ h => absurd h List.not_mem_nil) r_X2_seenBySet vc_X2_seenBySet
def bestU (ok : Nat → Bool) (b0 : Int32) : Nat → Int32
  | 0 => b0
  | t + 1 => if bc (nI t) < bc (bestU ok b0 t) ∧ ok t = true then nI t else bestU ok b0 t
def ce_X2_fewestPosts : rz_K := (2, kLk, 0, false, fun av w => ∃ (px py ph rx ry vi sp : Nat → Int32) (h : Int32) (n m : Nat), av = [.ref 1, .int h] ∧ w = wLk px py ph rx ry vi sp (nI n) (nI m) ∧ vp_in h 334 ∧ n ≤ 6 ∧ m ≤ 8, fun av w o w' => rR o = bestU (fun t => decide (orS (nI t) (fl (sbw w (rA av 1)) (rI w 8) (rF w 1 7).toNatClampNeg) (rF w 1 7).toNatClampNeg = orP (sbw w (rA av 1)) (rF w 1 7).toNatClampNeg)) (nI (2 ^ (rF w 1 7).toNatClampNeg - 1)) (2 ^ (rF w 1 7).toNatClampNeg) ∧ w' = rz_set w 8 (ri 6 (fl (sbw w (rA av 1)) (rI w 8) (rF w 1 7).toNatClampNeg)))
def cl_X2_fewestPosts : List (Nat × rz_K) := [(62, ce_J6_bitCount_0f7a4)]
def cv_X2_fewestPosts : List (Nat × rz_K) := [(58, ce_X2_reachesSeen), (67, ce_X2_seenBySet)]
theorem vc_X2_fewestPosts : rz_VC k_X2_fewestPosts fl_X2 cl_X2_fewestPosts cv_X2_fewestPosts s_X2_fewestPosts false 5 ce_X2_fewestPosts := by
  intro av w hlen hk hpre
  obtain ⟨px, py, ph, rx, ry, vi, sp, h, n, m, rfl, rfl, hh, hn, hm⟩ := hpre
  have hcl : (nI n).toNatClampNeg = n := nI_clamp (by omega)
  obtain ⟨hs1, hs2⟩ := rz_shl1 n (by omega)
  have hpow : 2 ^ n ≤ 64 := Nat.le_trans (Nat.pow_le_pow_right (by omega) hn) (by decide)
  generalize hf : sbw (wLk px py ph rx ry vi sp (nI n) (nI m)) h = f
  generalize hB : bestU (fun t => decide (orS (nI t) (fl f sp n) n = orP f n)) (nI (2 ^ n - 1)) = B
  have hend : ∀ x, x = B (2 ^ n) → rz_end ce_X2_fewestPosts [.ref 1, .int h] (wLk px py ph rx ry vi sp (nI n) (nI m)) (some (.int x)) (wLk px py ph rx ry vi (fl f sp n) (nI n) (nI m)) := by
    intro x hx
    refine ⟨⟨_, rfl⟩, fun z => (by cases z), ?_, ?_⟩
    · show x = bestU (fun t => decide (orS (nI t) (fl (sbw (wLk px py ph rx ry vi sp (nI n) (nI m)) h) sp (nI n).toNatClampNeg) (nI n).toNatClampNeg = orP (sbw (wLk px py ph rx ry vi sp (nI n) (nI m)) h) (nI n).toNatClampNeg)) (nI (2 ^ (nI n).toNatClampNeg - 1)) (2 ^ (nI n).toNatClampNeg)
      rw [hcl, hf, hB, hx]
    · show wLk px py ph rx ry vi (fl f sp n) (nI n) (nI m) = wLk px py ph rx ry vi (fl (sbw (wLk px py ph rx ry vi sp (nI n) (nI m)) h) sp (nI n).toNatClampNeg) (nI n) (nI m)
      rw [hcl, hf]
  refine ⟨Nat.le_of_ble_eq_true rfl, [(18, [0, 1, 2, 3, 4], fun k lv w' => ∃ t : Nat, t ≤ 2 ^ n ∧ lv = [(0, .ref 1), (1, .int h), (2, .int (orP f n)), (3, .int (B t)), (4, .int (nI t))] ∧ w' = wLk px py ph rx ry vi (fl f sp n) (nI n) (nI m) ∧ k = 2 ^ n - t)], 60, 2 ^ n + 1, ?_, ?_⟩
  · intro q hq k lv w' hj
    rcases List.mem_cons.mp hq with rfl | hq
    · obtain ⟨t, ht, rfl, rfl, rfl⟩ := hj
      conv => whnf
      refine ⟨fun c => ?_, fun c => ?_⟩
      · have c : (1 : Int32) <<< (nI n &&& 31) ≤ nI t := c
        rw [hs1] at c
        have e : t = 2 ^ n := by
          have := (nI_leI (by omega) (by omega)).mp c
          omega
        subst e
        exact hend _ rfl
      · have c : ¬ (1 : Int32) <<< (nI n &&& 31) ≤ nI t := c
        rw [hs1] at c
        have ht2 : t < 2 ^ n := by
          rcases Nat.lt_or_ge t (2 ^ n) with z | z
          · exact z
          · exact absurd (nI_le z (by omega)) c
        conv => whnf
        refine ⟨⟨_, rfl, rfl, trivial⟩, ?_⟩
        intro r1 hr1
        obtain rfl : r1 = bc (nI t) := hr1
        conv => whnf
        refine ⟨⟨_, rfl, rfl, trivial⟩, ?_⟩
        intro r2 hr2
        obtain rfl : r2 = bc (B t) := hr2
        have stay : ¬ (bc (nI t) < bc (B t) ∧ decide (orS (nI t) (fl f sp n) n = orP f n) = true) → B (t + 1) = B t := fun z => by
          rw [← hB] at z ⊢
          exact if_neg z
        conv => whnf
        refine ⟨fun c2 => ?_, fun c2 => ?_⟩
        · conv => whnf
          rintro _ rfl
          conv => whnf
          refine ⟨2 ^ n - (t + 1), by omega, t + 1, by omega, ?_, rfl, rfl⟩
          show [_, _, _, (3, Value.int (B t)), (4, Value.int (nI t + 1))] = [_, _, _, (3, Value.int (B (t + 1))), (4, Value.int (nI (t + 1)))]
          rw [nI_1, stay (fun z => absurd z.1 ((i32_not_lt _ _).mpr c2))]
        · conv => whnf
          refine ⟨⟨px, py, ph, rx, ry, vi, fl f sp n, nI m, nI t, n, rfl, rfl, hn⟩, ?_⟩
          intro r3 hr3
          have hr3 : r3 = orS (nI t) (fl f sp n) (nI n).toNatClampNeg := hr3
          rw [hcl] at hr3
          subst hr3
          conv => whnf
          refine ⟨fun c3 => ?_, fun c3 => ?_⟩
          · conv => whnf
            rintro _ rfl
            conv => whnf
            rintro _ rfl
            conv => whnf
            refine ⟨2 ^ n - (t + 1), by omega, t + 1, by omega, ?_, rfl, rfl⟩
            show [_, _, _, (3, Value.int (nI t)), (4, Value.int (nI t + 1))] = [_, _, _, (3, Value.int (B (t + 1))), (4, Value.int (nI (t + 1)))]
            have e : B (t + 1) = nI t := by
              rw [← hB] at c2 ⊢
              exact if_pos ⟨(i32_not_le _ _).mp c2, by simpa using c3⟩
            rw [nI_1, e]
          · conv => whnf
            rintro _ rfl
            conv => whnf
            refine ⟨2 ^ n - (t + 1), by omega, t + 1, by omega, ?_, rfl, rfl⟩
            show [_, _, _, (3, Value.int (B t)), (4, Value.int (nI t + 1))] = [_, _, _, (3, Value.int (B (t + 1))), (4, Value.int (nI (t + 1)))]
            rw [nI_1, stay (fun z => c3 (by simpa using z.2))]
    · exact absurd hq List.not_mem_nil
  · conv => whnf
    refine ⟨⟨px, py, ph, rx, ry, vi, sp, h, n, m, rfl, rfl, hh, hn, hm⟩, ?_⟩
    intro r w' hr
    obtain ⟨hr, rfl⟩ := hr
    have hr : r = orP (sbw (wLk px py ph rx ry vi sp (nI n) (nI m)) h) (nI n).toNatClampNeg := hr
    rw [hcl, hf] at hr
    subst hr
    conv => whnf
    rintro _ rfl
    conv => whnf
    rintro _ rfl
    conv => whnf
    rintro _ rfl
    conv => whnf
    refine ⟨2 ^ n, by omega, 0, Nat.zero_le _, ?_, ?_, rfl⟩
    · show [_, _, (2, Value.int (orP f n)), (3, Value.int ((1 : Int32) <<< (nI n &&& 31) - 1)), (4, Value.int 0)] = [_, _, (2, Value.int (orP f n)), (3, Value.int (B 0)), (4, Value.int (nI 0))]
      rw [hs2, ← hB]
      rfl
    · show wLk px py ph rx ry vi (fl (sbw (wLk px py ph rx ry vi sp (nI n) (nI m)) h) sp (nI n).toNatClampNeg) (nI n) (nI m) = _
      rw [hcl, hf]
theorem rv_X2_fewestPosts : rz_Rv yX2_fewestPosts.cls ce_X2_fewestPosts := fun av w h => by
  obtain ⟨_, _, _, _, _, _, _, _, _, _, rfl, rfl, _⟩ := h
  exact ⟨_, _, _, _, _, _, rfl, rfl, rfl⟩
theorem cn_X2_fewestPosts (l : Launch) : rz_Con l yX2_fewestPosts cX2_fewestPosts 5 (some .int) 3 0 0 ce_X2_fewestPosts := rz_con (by decide +kernel) fo_X2 (by
  intro q hq
  rcases List.mem_cons.mp hq with rfl | hq
  · exact rz_callS (cn_J6_bitCount_0f7a4 l) (by decide +kernel) ⟨Nat.le_of_ble_eq_true rfl, Nat.le_of_ble_eq_true rfl⟩ m_J6_bitCount_0f7a4 t_J6_bitCount_0f7a4 n_X2_62
  exact absurd hq List.not_mem_nil) (by
  intro q hq
  rcases List.mem_cons.mp hq with rfl | hq
  · exact rz_callV (cn_X2_reachesSeen l) (by decide +kernel) ⟨Nat.le_of_ble_eq_true rfl, Nat.le_of_ble_eq_true rfl⟩ m_X2_reachesSeen rfl i_X2_reachesSeen v_X2_reachesSeen rv_X2_reachesSeen n_X2_58
  rcases List.mem_cons.mp hq with rfl | hq
  · exact rz_callV (cn_X2_seenBySet l) (by decide +kernel) ⟨Nat.le_of_ble_eq_true rfl, Nat.le_of_ble_eq_true rfl⟩ m_X2_seenBySet rfl i_X2_seenBySet v_X2_seenBySet rv_X2_seenBySet n_X2_67
  exact absurd hq List.not_mem_nil) r_X2_fewestPosts vc_X2_fewestPosts
theorem i32_asc (x : Int32) : x + 1 - 1 = x := by rw [Int32.add_sub_cancel]
def ce_X2_addPost : rz_K := (4, kLk, 0, false, fun av w => ∃ (px py ph rx ry vi sp : Nat → Int32) (re x y z : Int32) (n : Nat), av = [.ref 1, .int x, .int y, .int z] ∧ w = wLk px py ph rx ry vi sp (nI n) re ∧ n ≤ 6, fun av w o w' => ∀ n : Nat, rF w 1 7 = nI n → n ≤ 6 → if n < 6 then rR o = nI n ∧ w' = wLk (upd (rI w 2) n (rA av 1)) (upd (rI w 3) n (rA av 2)) (upd (rI w 4) n (rA av 3)) (rI w 5) (rI w 6) (rI w 7) (rI w 8) (nI (n + 1)) (rF w 1 8) else rR o = -1 ∧ w' = w)
theorem nI_inj {a b : Nat} (ha : a < 2 ^ 31) (hb : b < 2 ^ 31) (h : nI a = nI b) : a = b := (nI_eq ha hb).mp h
def cl_X2_addPost : List (Nat × rz_K) := []
def cv_X2_addPost : List (Nat × rz_K) := []
theorem vc_X2_addPost : rz_VC k_X2_addPost fl_X2 cl_X2_addPost cv_X2_addPost s_X2_addPost false 4 ce_X2_addPost := by
  intro av w hlen hk hpre
  obtain ⟨px, py, ph, rx, ry, vi, sp, re, x, y, z, n, rfl, rfl, hn⟩ := hpre
  refine ⟨Nat.le_of_ble_eq_true rfl, [], 60, 0, fun q h => absurd h List.not_mem_nil, ?_⟩
  conv => whnf
  refine ⟨fun c => ?_, fun c => ?_⟩
  · have c : nI n < nI 6 := c
    have hn2 : n < 6 := (nI_ltI (by omega) (by omega)).mp c
    have hv : vp_in (nI n) 6 := vp_in_nI hn2 (by omega)
    conv => whnf
    refine ⟨hv, ?_⟩
    conv => whnf
    refine ⟨hv, ?_⟩
    conv => whnf
    refine ⟨hv, ?_⟩
    conv => whnf
    refine ⟨⟨_, rfl⟩, fun z => (by cases z), ?_⟩
    intro n' e hn'
    have e : n = n' := nI_inj (by omega) (by omega) e
    subst e
    rw [if_pos hn2]
    refine ⟨?_, ?_⟩
    · show nI n + 1 - 1 = nI n
      exact i32_asc _
    · show wLk (upd px (nI n).toNatClampNeg x) (upd py (nI n).toNatClampNeg y) (upd ph (nI n).toNatClampNeg z) rx ry vi sp (nI n + 1) re = _
      rw [nI_1, nI_clamp (by omega)]
      rfl
  · have c : ¬ nI n < nI 6 := c
    refine ⟨⟨_, rfl⟩, fun z => (by cases z), ?_⟩
    intro n' e hn'
    have e : n = n' := nI_inj (by omega) (by omega) e
    subst e
    rw [if_neg (fun z => c (nI_lt z (by omega)))]
    exact ⟨rfl, rfl⟩
theorem rv_X2_addPost : rz_Rv yX2_addPost.cls ce_X2_addPost := fun av w h => by
  obtain ⟨_, _, _, _, _, _, _, _, _, _, _, _, rfl, rfl, _⟩ := h
  exact ⟨_, _, _, _, _, _, rfl, rfl, rfl⟩
theorem cn_X2_addPost (l : Launch) : rz_Con l yX2_addPost cX2_addPost 4 (some .int) 0 0 0 ce_X2_addPost := rz_con (by decide +kernel) fo_X2 (fun _ h => absurd h List.not_mem_nil) (fun _ h => absurd h List.not_mem_nil) r_X2_addPost vc_X2_addPost
def ce_X2_addReach : rz_K := (3, kLk, 0, false, fun av w => ∃ (px py ph rx ry vi sp : Nat → Int32) (po x y : Int32) (n : Nat), av = [.ref 1, .int x, .int y] ∧ w = wLk px py ph rx ry vi sp po (nI n) ∧ n ≤ 8, fun av w o w' => ∀ n : Nat, rF w 1 8 = nI n → n ≤ 8 → if n < 8 then rR o = nI n ∧ w' = wLk (rI w 2) (rI w 3) (rI w 4) (upd (rI w 5) n (rA av 1)) (upd (rI w 6) n (rA av 2)) (rI w 7) (rI w 8) (rF w 1 7) (nI (n + 1)) else rR o = -1 ∧ w' = w)
def cl_X2_addReach : List (Nat × rz_K) := []
def cv_X2_addReach : List (Nat × rz_K) := []
theorem vc_X2_addReach : rz_VC k_X2_addReach fl_X2 cl_X2_addReach cv_X2_addReach s_X2_addReach false 3 ce_X2_addReach := by
  intro av w hlen hk hpre
  obtain ⟨px, py, ph, rx, ry, vi, sp, po, x, y, n, rfl, rfl, hn⟩ := hpre
  refine ⟨Nat.le_of_ble_eq_true rfl, [], 60, 0, fun q h => absurd h List.not_mem_nil, ?_⟩
  conv => whnf
  refine ⟨fun c => ?_, fun c => ?_⟩
  · have c : nI n < nI 8 := c
    have hn2 : n < 8 := (nI_ltI (by omega) (by omega)).mp c
    have hv : vp_in (nI n) 8 := vp_in_nI hn2 (by omega)
    conv => whnf
    refine ⟨hv, ?_⟩
    conv => whnf
    refine ⟨hv, ?_⟩
    conv => whnf
    refine ⟨⟨_, rfl⟩, fun z => (by cases z), ?_⟩
    intro n' e hn'
    have e : n = n' := nI_inj (by omega) (by omega) e
    subst e
    rw [if_pos hn2]
    refine ⟨?_, ?_⟩
    · show nI n + 1 - 1 = nI n
      exact i32_asc _
    · show wLk px py ph (upd rx (nI n).toNatClampNeg x) (upd ry (nI n).toNatClampNeg y) vi sp po (nI n + 1) = _
      rw [nI_1, nI_clamp (by omega)]
      rfl
  · have c : ¬ nI n < nI 8 := c
    refine ⟨⟨_, rfl⟩, fun z => (by cases z), ?_⟩
    intro n' e hn'
    have e : n = n' := nI_inj (by omega) (by omega) e
    subst e
    rw [if_neg (fun z => c (nI_lt z (by omega)))]
    exact ⟨rfl, rfl⟩
theorem rv_X2_addReach : rz_Rv yX2_addReach.cls ce_X2_addReach := fun av w h => by
  obtain ⟨_, _, _, _, _, _, _, _, _, _, _, rfl, rfl, _⟩ := h
  exact ⟨_, _, _, _, _, _, rfl, rfl, rfl⟩
theorem cn_X2_addReach (l : Launch) : rz_Con l yX2_addReach cX2_addReach 3 (some .int) 0 0 0 ce_X2_addReach := rz_con (by decide +kernel) fo_X2 (fun _ h => absurd h List.not_mem_nil) (fun _ h => absurd h List.not_mem_nil) r_X2_addReach vc_X2_addReach
end
section
/-! CoastWatch: post, reach, weather, sees, manned, open. -/
abbrev okP (x y : Int32) : Prop := 0 ≤ x ∧ x ≤ 2000 ∧ 0 ≤ y ∧ y ≤ 2000
abbrev okH (z : Int32) : Prop := 1 ≤ z ∧ z ≤ 500
abbrev okO (h : Int32) : Prop := 0 ≤ h ∧ h ≤ 333
abbrev okV (v : Int32) : Prop := 0 ≤ v ∧ v ≤ 2000
def ce_X6_post : rz_K := (4, 0 :: kLk, 0, false, fun av w => ∃ (px py ph rx ry vi sp : Nat → Int32) (nw re x y z : Int32) (n : Nat), av = [.ref 0, .int x, .int y, .int z] ∧ w = (0, oCW nw) :: wLk px py ph rx ry vi sp (nI n) re ∧ n ≤ 6, fun av w o w' => ∀ n : Nat, rF w 1 7 = nI n → n ≤ 6 → if okP (rA av 1) (rA av 2) ∧ okH (rA av 3) ∧ n < 6 then rR o = nI n ∧ w' = (0, oCW (rF w 0 6)) :: wLk (upd (rI w 2) n (rA av 1)) (upd (rI w 3) n (rA av 2)) (upd (rI w 4) n (rA av 3)) (rI w 5) (rI w 6) (rI w 7) (rI w 8) (nI (n + 1)) (rF w 1 8) else rR o = -1 ∧ w' = w)
def cl_X6_post : List (Nat × rz_K) := [(55, ce_X6_isPlace), (59, ce_X6_isWithin)]
def cv_X6_post : List (Nat × rz_K) := [(63, ce_X2_addPost)]
theorem vc_X6_post : rz_VC k_X6_post fl_X6 cl_X6_post cv_X6_post s_X6_post false 4 ce_X6_post := by
  intro av w hlen hk hpre
  obtain ⟨px, py, ph, rx, ry, vi, sp, nw, re, x, y, z, n, rfl, rfl, hn⟩ := hpre
  refine ⟨Nat.le_of_ble_eq_true rfl, [], 60, 0, fun q h => absurd h List.not_mem_nil, ?_⟩
  conv => whnf
  refine ⟨⟨_, _, rfl, rfl, trivial⟩, ?_⟩
  intro r hr
  obtain rfl : r = bI (okP x y) := hr
  conv => whnf
  refine ⟨fun h => ?_, fun h => ?_⟩
  · refine ⟨⟨_, rfl⟩, fun z => (by cases z), ?_⟩
    intro n' e hn'
    rw [if_neg (fun z => bI_0 h z.1)]
    exact ⟨rfl, rfl⟩
  · conv => whnf
    refine ⟨⟨_, _, _, rfl, rfl, trivial⟩, ?_⟩
    intro r hr
    obtain rfl : r = bI (okH z) := hr
    conv => whnf
    refine ⟨fun h2 => ?_, fun h2 => ?_⟩
    · refine ⟨⟨_, rfl⟩, fun z => (by cases z), ?_⟩
      intro n' e hn'
      rw [if_neg (fun z => bI_0 h2 z.2.1)]
      exact ⟨rfl, rfl⟩
    · conv => whnf
      refine ⟨⟨px, py, ph, rx, ry, vi, sp, re, x, y, z, n, rfl, rfl, hn⟩, ?_⟩
      intro r w' hr
      replace hr := hr n rfl hn
      conv => whnf
      by_cases hn2 : n < 6
      · rw [if_pos hn2] at hr
        obtain ⟨hr, rfl⟩ := hr
        refine ⟨⟨_, rfl⟩, fun z => (by cases z), ?_⟩
        intro n' e hn'
        have e : n = n' := nI_inj (by omega) (by omega) e
        subst e
        rw [if_pos ⟨bI_n h, bI_n h2, hn2⟩]
        exact ⟨hr, rfl⟩
      · rw [if_neg hn2] at hr
        obtain ⟨hr, rfl⟩ := hr
        refine ⟨⟨_, rfl⟩, fun z => (by cases z), ?_⟩
        intro n' e hn'
        have e : n = n' := nI_inj (by omega) (by omega) e
        subst e
        rw [if_neg (fun z => hn2 z.2.2)]
        exact ⟨hr, rfl⟩
theorem rv_X6_post : rz_Rv yX6_post.cls ce_X6_post := fun av w h => by
  obtain ⟨_, _, _, _, _, _, _, _, _, _, _, _, _, rfl, rfl, _⟩ := h
  exact ⟨_, _, _, _, _, _, rfl, rfl, rfl⟩
theorem cn_X6_post (l : Launch) : rz_Con l yX6_post cX6_post 4 (some .int) 2 0 0 ce_X6_post := rz_con (by decide +kernel) fo_X6 (by
  intro q hq
  rcases List.mem_cons.mp hq with rfl | hq
  · exact rz_callS (cn_X6_isPlace l) (by decide +kernel) ⟨Nat.le_of_ble_eq_true rfl, Nat.le_of_ble_eq_true rfl⟩ m_X6_isPlace t_X6_isPlace n_X6_55
  rcases List.mem_cons.mp hq with rfl | hq
  · exact rz_callS (cn_X6_isWithin l) (by decide +kernel) ⟨Nat.le_of_ble_eq_true rfl, Nat.le_of_ble_eq_true rfl⟩ m_X6_isWithin t_X6_isWithin n_X6_59
  exact absurd hq List.not_mem_nil) (by
  intro q hq
  rcases List.mem_cons.mp hq with rfl | hq
  · exact rz_callVN (cn_X2_addPost l) (by decide +kernel) ⟨Nat.le_of_ble_eq_true rfl, Nat.le_of_ble_eq_true rfl⟩ m_X2_addPost rfl i_X2_addPost v_X2_addPost rv_X2_addPost n_X6_63
  exact absurd hq List.not_mem_nil) r_X6_post vc_X6_post
def ce_X6_reach : rz_K := (3, 0 :: kLk, 0, false, fun av w => ∃ (px py ph rx ry vi sp : Nat → Int32) (nw po x y : Int32) (n : Nat), av = [.ref 0, .int x, .int y] ∧ w = (0, oCW nw) :: wLk px py ph rx ry vi sp po (nI n) ∧ n ≤ 8, fun av w o w' => ∀ n : Nat, rF w 1 8 = nI n → n ≤ 8 → if okP (rA av 1) (rA av 2) ∧ n < 8 then rR o = nI n ∧ w' = (0, oCW (rF w 0 6)) :: wLk (rI w 2) (rI w 3) (rI w 4) (upd (rI w 5) n (rA av 1)) (upd (rI w 6) n (rA av 2)) (rI w 7) (rI w 8) (rF w 1 7) (nI (n + 1)) else rR o = -1 ∧ w' = w)
def cl_X6_reach : List (Nat × rz_K) := [(55, ce_X6_isPlace)]
def cv_X6_reach : List (Nat × rz_K) := [(67, ce_X2_addReach)]
theorem vc_X6_reach : rz_VC k_X6_reach fl_X6 cl_X6_reach cv_X6_reach s_X6_reach false 3 ce_X6_reach := by
  intro av w hlen hk hpre
  obtain ⟨px, py, ph, rx, ry, vi, sp, nw, po, x, y, n, rfl, rfl, hn⟩ := hpre
  refine ⟨Nat.le_of_ble_eq_true rfl, [], 60, 0, fun q h => absurd h List.not_mem_nil, ?_⟩
  conv => whnf
  refine ⟨⟨_, _, rfl, rfl, trivial⟩, ?_⟩
  intro r hr
  obtain rfl : r = bI (okP x y) := hr
  conv => whnf
  refine ⟨fun h => ?_, fun h => ?_⟩
  · refine ⟨⟨_, rfl⟩, fun z => (by cases z), ?_⟩
    intro n' e hn'
    rw [if_neg (fun z => bI_0 h z.1)]
    exact ⟨rfl, rfl⟩
  · conv => whnf
    refine ⟨⟨px, py, ph, rx, ry, vi, sp, po, x, y, n, rfl, rfl, hn⟩, ?_⟩
    intro r w' hr
    replace hr := hr n rfl hn
    conv => whnf
    by_cases hn2 : n < 8
    · rw [if_pos hn2] at hr
      obtain ⟨hr, rfl⟩ := hr
      refine ⟨⟨_, rfl⟩, fun z => (by cases z), ?_⟩
      intro n' e hn'
      have e : n = n' := nI_inj (by omega) (by omega) e
      subst e
      rw [if_pos ⟨bI_n h, hn2⟩]
      exact ⟨hr, rfl⟩
    · rw [if_neg hn2] at hr
      obtain ⟨hr, rfl⟩ := hr
      refine ⟨⟨_, rfl⟩, fun z => (by cases z), ?_⟩
      intro n' e hn'
      have e : n = n' := nI_inj (by omega) (by omega) e
      subst e
      rw [if_neg (fun z => hn2 z.2)]
      exact ⟨hr, rfl⟩
theorem rv_X6_reach : rz_Rv yX6_reach.cls ce_X6_reach := fun av w h => by
  obtain ⟨_, _, _, _, _, _, _, _, _, _, _, _, rfl, rfl, _⟩ := h
  exact ⟨_, _, _, _, _, _, rfl, rfl, rfl⟩
theorem cn_X6_reach (l : Launch) : rz_Con l yX6_reach cX6_reach 3 (some .int) 2 0 0 ce_X6_reach := rz_con (by decide +kernel) fo_X6 (by
  intro q hq
  rcases List.mem_cons.mp hq with rfl | hq
  · exact rz_callS (cn_X6_isPlace l) (by decide +kernel) ⟨Nat.le_of_ble_eq_true rfl, Nat.le_of_ble_eq_true rfl⟩ m_X6_isPlace t_X6_isPlace n_X6_55
  exact absurd hq List.not_mem_nil) (by
  intro q hq
  rcases List.mem_cons.mp hq with rfl | hq
  · exact rz_callVN (cn_X2_addReach l) (by decide +kernel) ⟨Nat.le_of_ble_eq_true rfl, Nat.le_of_ble_eq_true rfl⟩ m_X2_addReach rfl i_X2_addReach v_X2_addReach rv_X2_addReach n_X6_67
  exact absurd hq List.not_mem_nil) r_X6_reach vc_X6_reach
def ce_X6_weather : rz_K := (3, 0 :: kLk, 0, false, fun av w => ∃ (px py ph rx ry vi sp : Nat → Int32) (nw po re h v : Int32), av = [.ref 0, .int h, .int v] ∧ w = (0, oCW nw) :: wLk px py ph rx ry vi sp po re ∧ True, fun av w o w' => if okO (rA av 1) ∧ okV (rA av 2) then rR o = 1 ∧ w' = (0, oCW (rF w 0 6)) :: wLk (rI w 2) (rI w 3) (rI w 4) (rI w 5) (rI w 6) (upd (rI w 7) (rA av 1).toNatClampNeg (rA av 2)) (rI w 8) (rF w 1 7) (rF w 1 8) else rR o = 0 ∧ w' = w)
def cl_X6_weather : List (Nat × rz_K) := [(59, ce_X6_isWithin), (71, ce_X6_isHour)]
def cv_X6_weather : List (Nat × rz_K) := []
theorem vc_X6_weather : rz_VC k_X6_weather fl_X6 cl_X6_weather cv_X6_weather s_X6_weather true 3 ce_X6_weather := by
  intro av w hlen hk hpre
  obtain ⟨px, py, ph, rx, ry, vi, sp, nw, po, re, h, v, rfl, rfl, -⟩ := hpre
  refine ⟨Nat.le_of_ble_eq_true rfl, [], 60, 0, fun q h => absurd h List.not_mem_nil, ?_⟩
  conv => whnf
  refine ⟨⟨_, rfl, rfl, trivial⟩, ?_⟩
  intro r hr
  obtain rfl : r = bI (okO h) := hr
  have stop : ¬ (okO h ∧ okV v) → (ce_X6_weather.2.2.2.2.2 [.ref 0, .int h, .int v] ((0, oCW nw) :: wLk px py ph rx ry vi sp po re) (some (.int 0)) ((0, oCW nw) :: wLk px py ph rx ry vi sp po re)) := fun z => by
    show if okO h ∧ okV v then _ else _
    rw [if_neg z]
    exact ⟨rfl, rfl⟩
  conv => whnf
  refine ⟨fun h1 => ?_, fun h1 => ?_⟩
  · exact ⟨Or.inl rfl, ⟨_, rfl⟩, fun z => (by cases z), stop (fun z => bI_0 h1 z.1)⟩
  · conv => whnf
    refine ⟨⟨_, _, _, rfl, rfl, trivial⟩, ?_⟩
    intro r hr
    obtain rfl : r = bI (okV v) := hr
    conv => whnf
    refine ⟨fun h2 => ?_, fun h2 => ?_⟩
    · exact ⟨Or.inl rfl, ⟨_, rfl⟩, fun z => (by cases z), stop (fun z => bI_0 h2 z.2)⟩
    · conv => whnf
      refine ⟨vp_of2 (bI_n h1).1 (bI_n h1).2 rfl, ?_⟩
      conv => whnf
      refine ⟨Or.inr rfl, ⟨_, rfl⟩, fun z => (by cases z), ?_⟩
      show if okO h ∧ okV v then _ else _
      rw [if_pos ⟨bI_n h1, bI_n h2⟩]
      exact ⟨rfl, rfl⟩
theorem rv_X6_weather : rz_Rv yX6_weather.cls ce_X6_weather := fun av w h => by
  obtain ⟨_, _, _, _, _, _, _, _, _, _, _, _, rfl, rfl, _⟩ := h
  exact ⟨_, _, _, _, _, _, rfl, rfl, rfl⟩
theorem cn_X6_weather (l : Launch) : rz_Con l yX6_weather cX6_weather 3 (some .boolean) 2 0 0 ce_X6_weather := rz_con (by decide +kernel) fo_X6 (by
  intro q hq
  rcases List.mem_cons.mp hq with rfl | hq
  · exact rz_callS (cn_X6_isWithin l) (by decide +kernel) ⟨Nat.le_of_ble_eq_true rfl, Nat.le_of_ble_eq_true rfl⟩ m_X6_isWithin t_X6_isWithin n_X6_59
  rcases List.mem_cons.mp hq with rfl | hq
  · exact rz_callS (cn_X6_isHour l) (by decide +kernel) ⟨Nat.le_of_ble_eq_true rfl, Nat.le_of_ble_eq_true rfl⟩ m_X6_isHour t_X6_isHour n_X6_71
  exact absurd hq List.not_mem_nil) (fun _ h => absurd h List.not_mem_nil) r_X6_weather vc_X6_weather
abbrev okS (p : Int32) (n : Nat) : Prop := 0 ≤ p ∧ p ≤ nI n - 1
theorem okS_vp {p : Int32} {n N : Nat} (h : okS p n) (hn : n ≤ N) (hN : N < 2 ^ 30) : vp_in p N := by
  obtain ⟨h1, h2⟩ := h
  rw [vp_in_iff]
  rw [Int32.le_iff_toInt_le] at h1 h2
  have e0 : (0 : Int32).toInt = 0 := rfl
  have e1 : (nI n - 1).toInt = (n : Int) - 1 := by
    have := pk_sub_toInt (a := n) (b := 1) (by omega) (by omega)
    exact this
  omega
def ce_X6_sees : rz_K := (5, 0 :: kLk, 0, true, fun av w => ∃ (px py ph rx ry vi sp : Nat → Int32) (nw re p x y h : Int32) (n : Nat), av = [.ref 0, .int p, .int x, .int y, .int h] ∧ w = (0, oCW nw) :: wLk px py ph rx ry vi sp (nI n) re ∧ n ≤ 6, fun av w o _ => ∀ n : Nat, rF w 1 7 = nI n → n ≤ 6 → rR o = if okS (rA av 1) n ∧ okP (rA av 2) (rA av 3) ∧ okO (rA av 4) then bI (sn (rI w 2) (rI w 3) (rI w 4) (rI w 7) (rA av 1).toNatClampNeg (rA av 2) (rA av 3) (rA av 4).toNatClampNeg) else -1)
def cl_X6_sees : List (Nat × rz_K) := [(55, ce_X6_isPlace), (71, ce_X6_isHour)]
def cv_X6_sees : List (Nat × rz_K) := [(79, ce_X2_hasPost), (82, ce_X2_isSeen)]
theorem vc_X6_sees : rz_VC k_X6_sees fl_X6 cl_X6_sees cv_X6_sees s_X6_sees false 5 ce_X6_sees := by
  intro av w hlen hk hpre
  obtain ⟨px, py, ph, rx, ry, vi, sp, nw, re, p, x, y, h, n, rfl, rfl, hn⟩ := hpre
  refine ⟨Nat.le_of_ble_eq_true rfl, [], 60, 0, fun q h => absurd h List.not_mem_nil, ?_⟩
  have fin : ∀ v : Int32, (v = if okS p n ∧ okP x y ∧ okO h then bI (sn px py ph vi p.toNatClampNeg x y h.toNatClampNeg) else -1) → rz_end ce_X6_sees [.ref 0, .int p, .int x, .int y, .int h] ((0, oCW nw) :: wLk px py ph rx ry vi sp (nI n) re) (some (.int v)) ((0, oCW nw) :: wLk px py ph rx ry vi sp (nI n) re) := by
    intro v hv
    refine ⟨⟨_, rfl⟩, fun _ => rfl, ?_⟩
    intro n' e hn'
    have e : n = n' := nI_inj (by omega) (by omega) e
    subst e
    exact hv
  conv => whnf
  refine ⟨⟨px, py, ph, rx, ry, vi, sp, nI n, re, p, rfl, rfl, trivial⟩, ?_⟩
  intro r hr
  obtain rfl : r = bI (okS p n) := hr
  conv => whnf
  refine ⟨fun h1 => ?_, fun h1 => ?_⟩
  · exact fin _ (if_neg (fun z => bI_0 h1 z.1)).symm
  · conv => whnf
    refine ⟨⟨_, _, rfl, rfl, trivial⟩, ?_⟩
    intro r hr
    obtain rfl : r = bI (okP x y) := hr
    conv => whnf
    refine ⟨fun h2 => ?_, fun h2 => ?_⟩
    · exact fin _ (if_neg (fun z => bI_0 h2 z.2.1)).symm
    · conv => whnf
      refine ⟨⟨_, rfl, rfl, trivial⟩, ?_⟩
      intro r hr
      obtain rfl : r = bI (okO h) := hr
      conv => whnf
      refine ⟨fun h3 => ?_, fun h3 => ?_⟩
      · exact fin _ (if_neg (fun z => bI_0 h3 z.2.2)).symm
      · conv => whnf
        refine ⟨⟨px, py, ph, rx, ry, vi, sp, nI n, re, p, x, y, h, rfl, rfl, okS_vp (bI_n h1) hn (by omega), vp_of2 (bI_n h3).1 (bI_n h3).2 rfl⟩, ?_⟩
        intro r hr
        obtain rfl : r = bI (sn px py ph vi p.toNatClampNeg x y h.toNatClampNeg) := hr
        have fin2 : ∀ v : Int32, v = bI (sn px py ph vi p.toNatClampNeg x y h.toNatClampNeg) → rz_end ce_X6_sees [.ref 0, .int p, .int x, .int y, .int h] ((0, oCW nw) :: wLk px py ph rx ry vi sp (nI n) re) (some (.int v)) ((0, oCW nw) :: wLk px py ph rx ry vi sp (nI n) re) := fun v hv => fin v (hv.trans (if_pos ⟨bI_n h1, bI_n h2, bI_n h3⟩).symm)
        conv => whnf
        refine ⟨fun h4 => ?_, fun h4 => ?_⟩
        · exact fin2 _ h4.symm
        · exact fin2 _ (bI_t (bI_n h4))
theorem rv_X6_sees : rz_Rv yX6_sees.cls ce_X6_sees := fun av w h => by
  obtain ⟨_, _, _, _, _, _, _, _, _, _, _, _, _, _, rfl, rfl, _⟩ := h
  exact ⟨_, _, _, _, _, _, rfl, rfl, rfl⟩
theorem cn_X6_sees (l : Launch) : rz_Con l yX6_sees cX6_sees 5 (some .int) 2 0 0 ce_X6_sees := rz_con (by decide +kernel) fo_X6 (by
  intro q hq
  rcases List.mem_cons.mp hq with rfl | hq
  · exact rz_callS (cn_X6_isPlace l) (by decide +kernel) ⟨Nat.le_of_ble_eq_true rfl, Nat.le_of_ble_eq_true rfl⟩ m_X6_isPlace t_X6_isPlace n_X6_55
  rcases List.mem_cons.mp hq with rfl | hq
  · exact rz_callS (cn_X6_isHour l) (by decide +kernel) ⟨Nat.le_of_ble_eq_true rfl, Nat.le_of_ble_eq_true rfl⟩ m_X6_isHour t_X6_isHour n_X6_71
  exact absurd hq List.not_mem_nil) (by
  intro q hq
  rcases List.mem_cons.mp hq with rfl | hq
  · exact rz_callVN (cn_X2_hasPost l) (by decide +kernel) ⟨Nat.le_of_ble_eq_true rfl, Nat.le_of_ble_eq_true rfl⟩ m_X2_hasPost rfl i_X2_hasPost v_X2_hasPost rv_X2_hasPost n_X6_79
  rcases List.mem_cons.mp hq with rfl | hq
  · exact rz_callVN (cn_X2_isSeen l) (by decide +kernel) ⟨Nat.le_of_ble_eq_true rfl, Nat.le_of_ble_eq_true rfl⟩ m_X2_isSeen rfl i_X2_isSeen v_X2_isSeen rv_X2_isSeen n_X6_82
  exact absurd hq List.not_mem_nil) r_X6_sees vc_X6_sees
def ce_X6_manned : rz_K := (2, 0 :: kLk, 0, false, fun av w => ∃ (px py ph rx ry vi sp : Nat → Int32) (nw h : Int32) (n m : Nat), av = [.ref 0, .int h] ∧ w = (0, oCW nw) :: wLk px py ph rx ry vi sp (nI n) (nI m) ∧ n ≤ 6 ∧ m ≤ 8, fun av w o w' => ∀ n m : Nat, rF w 1 7 = nI n → n ≤ 6 → rF w 1 8 = nI m → m ≤ 8 → if okO (rA av 1) then rR o = bestU (fun t => decide (orS (nI t) (fl (sb (rI w 2) (rI w 3) (rI w 4) (rI w 7) (rI w 5) (rI w 6) m (rA av 1).toNatClampNeg) (rI w 8) n) n = orP (sb (rI w 2) (rI w 3) (rI w 4) (rI w 7) (rI w 5) (rI w 6) m (rA av 1).toNatClampNeg) n)) (nI (2 ^ n - 1)) (2 ^ n) ∧ (∃ sp', w' = rz_set w 8 (ri 6 sp')) else rR o = -1 ∧ w' = w)
def cl_X6_manned : List (Nat × rz_K) := [(71, ce_X6_isHour)]
def cv_X6_manned : List (Nat × rz_K) := [(86, ce_X2_fewestPosts)]
theorem sbw_eq {px py ph rx ry vi sp : Nat → Int32} {n m : Nat} {h : Int32} (hm : m ≤ 8) : sbw (wLk px py ph rx ry vi sp (nI n) (nI m)) h = sb px py ph vi rx ry m h.toNatClampNeg := by
  funext p
  show sb px py ph vi rx ry (nI m).toNatClampNeg h.toNatClampNeg p = _
  rw [nI_clamp (by omega)]
theorem vc_X6_manned : rz_VC k_X6_manned fl_X6 cl_X6_manned cv_X6_manned s_X6_manned false 2 ce_X6_manned := by
  intro av w hlen hk hpre
  obtain ⟨px, py, ph, rx, ry, vi, sp, nw, h, n, m, rfl, rfl, hn, hm⟩ := hpre
  refine ⟨Nat.le_of_ble_eq_true rfl, [], 60, 0, fun q h => absurd h List.not_mem_nil, ?_⟩
  conv => whnf
  refine ⟨⟨_, rfl, rfl, trivial⟩, ?_⟩
  intro r hr
  obtain rfl : r = bI (okO h) := hr
  conv => whnf
  refine ⟨fun h1 => ?_, fun h1 => ?_⟩
  · refine ⟨⟨_, rfl⟩, fun z => (by cases z), ?_⟩
    intro n' m' e1 hn' e2 hm'
    exact if_no (bI_0 h1) ⟨rfl, rfl⟩
  · conv => whnf
    refine ⟨⟨px, py, ph, rx, ry, vi, sp, h, n, m, rfl, rfl, vp_of2 (bI_n h1).1 (bI_n h1).2 rfl, hn, hm⟩, ?_⟩
    intro r w' hr
    obtain ⟨hr, rfl⟩ := hr
    have hr : r = bestU (fun t => decide (orS (nI t) (fl (sbw (wLk px py ph rx ry vi sp (nI n) (nI m)) h) sp (nI n).toNatClampNeg) (nI n).toNatClampNeg = orP (sbw (wLk px py ph rx ry vi sp (nI n) (nI m)) h) (nI n).toNatClampNeg)) (nI (2 ^ (nI n).toNatClampNeg - 1)) (2 ^ (nI n).toNatClampNeg) := hr
    rw [nI_clamp (by omega), sbw_eq hm] at hr
    conv => whnf
    refine ⟨⟨_, rfl⟩, fun z => (by cases z), ?_⟩
    intro n' m' e1 hn' e2 hm'
    have e1 : n = n' := nI_inj (by omega) (by omega) e1
    have e2 : m = m' := nI_inj (by omega) (by omega) e2
    subst e1 e2
    exact if_yes (bI_n h1) ⟨hr, _, rfl⟩
theorem rv_X6_manned : rz_Rv yX6_manned.cls ce_X6_manned := fun av w h => by
  obtain ⟨_, _, _, _, _, _, _, _, _, _, _, rfl, rfl, _⟩ := h
  exact ⟨_, _, _, _, _, _, rfl, rfl, rfl⟩
theorem cn_X6_manned (l : Launch) : rz_Con l yX6_manned cX6_manned 2 (some .int) 4 0 0 ce_X6_manned := rz_con (by decide +kernel) fo_X6 (by
  intro q hq
  rcases List.mem_cons.mp hq with rfl | hq
  · exact rz_callS (cn_X6_isHour l) (by decide +kernel) ⟨Nat.le_of_ble_eq_true rfl, Nat.le_of_ble_eq_true rfl⟩ m_X6_isHour t_X6_isHour n_X6_71
  exact absurd hq List.not_mem_nil) (by
  intro q hq
  rcases List.mem_cons.mp hq with rfl | hq
  · exact rz_callVN (cn_X2_fewestPosts l) (by decide +kernel) ⟨Nat.le_of_ble_eq_true rfl, Nat.le_of_ble_eq_true rfl⟩ m_X2_fewestPosts rfl i_X2_fewestPosts v_X2_fewestPosts rv_X2_fewestPosts n_X6_86
  exact absurd hq List.not_mem_nil) r_X6_manned vc_X6_manned
def ce_X6_open : rz_K := (2, 0 :: kLk, 0, false, fun av w => ∃ (px py ph rx ry vi sp : Nat → Int32) (nw h : Int32) (n m : Nat), av = [.ref 0, .int h] ∧ w = (0, oCW nw) :: wLk px py ph rx ry vi sp (nI n) (nI m) ∧ n ≤ 6 ∧ m ≤ 8, fun av w o w' => ∀ n m : Nat, rF w 1 7 = nI n → n ≤ 6 → rF w 1 8 = nI m → m ≤ 8 → if okO (rA av 1) then rR o = ((1 : Int32) <<< (nI m &&& 31) - 1) &&& (orP (sb (rI w 2) (rI w 3) (rI w 4) (rI w 7) (rI w 5) (rI w 6) m (rA av 1).toNatClampNeg) n ^^^ (-1)) ∧ (∃ sp', w' = rz_set w 8 (ri 6 sp')) else rR o = -1 ∧ w' = w)
def cl_X6_open : List (Nat × rz_K) := [(71, ce_X6_isHour)]
def cv_X6_open : List (Nat × rz_K) := [(90, ce_X2_reachesUnseen)]
theorem vc_X6_open : rz_VC k_X6_open fl_X6 cl_X6_open cv_X6_open s_X6_open false 2 ce_X6_open := by
  intro av w hlen hk hpre
  obtain ⟨px, py, ph, rx, ry, vi, sp, nw, h, n, m, rfl, rfl, hn, hm⟩ := hpre
  refine ⟨Nat.le_of_ble_eq_true rfl, [], 60, 0, fun q h => absurd h List.not_mem_nil, ?_⟩
  conv => whnf
  refine ⟨⟨_, rfl, rfl, trivial⟩, ?_⟩
  intro r hr
  obtain rfl : r = bI (okO h) := hr
  conv => whnf
  refine ⟨fun h1 => ?_, fun h1 => ?_⟩
  · refine ⟨⟨_, rfl⟩, fun z => (by cases z), ?_⟩
    intro n' m' e1 hn' e2 hm'
    exact if_no (bI_0 h1) ⟨rfl, rfl⟩
  · conv => whnf
    refine ⟨⟨px, py, ph, rx, ry, vi, sp, h, n, m, rfl, rfl, vp_of2 (bI_n h1).1 (bI_n h1).2 rfl, hn, hm⟩, ?_⟩
    intro r w' hr
    obtain ⟨hr, rfl⟩ := hr
    have hr : r = ((1 : Int32) <<< (nI m &&& 31) - 1) &&& (orP (sbw (wLk px py ph rx ry vi sp (nI n) (nI m)) h) (nI n).toNatClampNeg ^^^ (-1)) := hr
    rw [nI_clamp (by omega), sbw_eq hm] at hr
    conv => whnf
    refine ⟨⟨_, rfl⟩, fun z => (by cases z), ?_⟩
    intro n' m' e1 hn' e2 hm'
    have e1 : n = n' := nI_inj (by omega) (by omega) e1
    have e2 : m = m' := nI_inj (by omega) (by omega) e2
    subst e1 e2
    exact if_yes (bI_n h1) ⟨hr, _, rfl⟩
theorem rv_X6_open : rz_Rv yX6_open.cls ce_X6_open := fun av w h => by
  obtain ⟨_, _, _, _, _, _, _, _, _, _, _, rfl, rfl, _⟩ := h
  exact ⟨_, _, _, _, _, _, rfl, rfl, rfl⟩
theorem cn_X6_open (l : Launch) : rz_Con l yX6_open cX6_open 2 (some .int) 4 0 0 ce_X6_open := rz_con (by decide +kernel) fo_X6 (by
  intro q hq
  rcases List.mem_cons.mp hq with rfl | hq
  · exact rz_callS (cn_X6_isHour l) (by decide +kernel) ⟨Nat.le_of_ble_eq_true rfl, Nat.le_of_ble_eq_true rfl⟩ m_X6_isHour t_X6_isHour n_X6_71
  exact absurd hq List.not_mem_nil) (by
  intro q hq
  rcases List.mem_cons.mp hq with rfl | hq
  · exact rz_callVN (cn_X2_reachesUnseen l) (by decide +kernel) ⟨Nat.le_of_ble_eq_true rfl, Nat.le_of_ble_eq_true rfl⟩ m_X2_reachesUnseen rfl i_X2_reachesUnseen v_X2_reachesUnseen rv_X2_reachesUnseen n_X6_90
  exact absurd hq List.not_mem_nil) r_X6_open vc_X6_open
end
section
/-! The reference: post, reach, weather, sees, manned, open. -/
abbrev wMk (o : rz_C) (px py ph rx ry vi : Nat → Int32) : rz_W := [(50, o), (51, ri 6 px), (52, ri 6 py), (53, ri 6 ph), (54, ri 8 rx), (55, ri 8 ry), (56, ri 334 vi)]
abbrev kMk : List Nat := [50, 51, 52, 53, 54, 55, 56]
theorem sq_sub (a b : Int32) : (a - b) * (a - b) = (b - a) * (b - a) := by
  rw [← Int32.neg_sub (a := b) (b := a), Int32.neg_mul_neg]
def ce_X7_seesAt : rz_K := (5, kMk, 0, true, fun av w => ∃ (px py ph rx ry vi : Nat → Int32) (th po re nw si pl tr bo pn ca sp co p x y h : Int32), av = [.ref 50, .int p, .int x, .int y, .int h] ∧ w = wMk (oMo th po re nw si pl tr bo pn ca sp co) px py ph rx ry vi ∧ vp_in p 6 ∧ vp_in h 334, fun av w o _ => rR o = bI (sn (rI w 51) (rI w 52) (rI w 53) (rI w 56) (rA av 1).toNatClampNeg (rA av 2) (rA av 3) (rA av 4).toNatClampNeg))
def cl_X7_seesAt : List (Nat × rz_K) := []
def cv_X7_seesAt : List (Nat × rz_K) := []
theorem vc_X7_seesAt : rz_VC k_X7_seesAt fl_X7 cl_X7_seesAt cv_X7_seesAt s_X7_seesAt true 6 ce_X7_seesAt := by
  intro av w hlen hk hpre
  obtain ⟨px, py, ph, rx, ry, vi, th, po, re, nw, si, pl, tr, bo, pn, ca, sp, co, p, x, y, h, rfl, rfl, hp, hh⟩ := hpre
  refine ⟨Nat.le_of_ble_eq_true rfl, [], 90, 0, fun q h => absurd h List.not_mem_nil, ?_⟩
  conv => whnf
  refine ⟨hp, ?_⟩
  conv => whnf
  refine ⟨hp, ?_⟩
  conv => whnf
  refine ⟨hp, ?_⟩
  conv => whnf
  refine ⟨hp, ?_⟩
  conv => whnf
  intro d ed
  have ed : d = (px p.toNatClampNeg - x) * (px p.toNatClampNeg - x) + (py p.toNatClampNeg - y) * (py p.toNatClampNeg - y) := by
    rw [ed]
    show (x - px p.toNatClampNeg) * (x - px p.toNatClampNeg) + (y - py p.toNatClampNeg) * (y - py p.toNatClampNeg) = _
    rw [sq_sub x, sq_sub y]
  subst ed
  conv => whnf
  refine ⟨hh, ?_⟩
  conv => whnf
  refine ⟨hh, ?_⟩
  conv => whnf
  refine ⟨fun h1 => ?_, fun h1 => ?_⟩
  · exact ⟨Or.inl rfl, ⟨_, rfl⟩, fun _ => rfl, bI_f (fun z => absurd z.1 ((i32_not_le _ _).mpr h1))⟩
  · conv => whnf
    refine ⟨hp, ?_⟩
    conv => whnf
    refine ⟨fun h2 => ?_, fun h2 => ?_⟩
    · exact ⟨Or.inl rfl, ⟨_, rfl⟩, fun _ => rfl, bI_f (fun z => absurd z.2 ((i32_not_le _ _).mpr h2))⟩
    · exact ⟨Or.inr rfl, ⟨_, rfl⟩, fun _ => rfl, bI_t ⟨(i32_not_lt _ _).mp h1, (i32_not_lt _ _).mp h2⟩⟩
theorem rv_X7_seesAt : rz_Rv yX7_seesAt.cls ce_X7_seesAt := fun av w h => by
  obtain ⟨_, _, _, _, _, _, _, _, _, _, _, _, _, _, _, _, _, _, _, _, _, _, rfl, rfl, _⟩ := h
  exact ⟨_, _, _, _, _, _, rfl, rfl, rfl⟩
theorem cn_X7_seesAt (l : Launch) : rz_Con l yX7_seesAt cX7_seesAt 6 (some .boolean) 0 0 0 ce_X7_seesAt := rz_con (by decide +kernel) fo_X7 (fun _ h => absurd h List.not_mem_nil) (fun _ h => absurd h List.not_mem_nil) r_X7_seesAt vc_X7_seesAt
/-- the reaches that post p sees, laid on what there was -/
def orRa (a : Int32) (f : Nat → Bool) : Nat → Int32
  | 0 => a
  | n + 1 => if f n then orRa a f n ||| ((1 : Int32) <<< (nI n &&& 31)) else orRa a f n
def orSa (t : Int32) (g : Nat → Nat → Bool) (m : Nat) : Nat → Int32
  | 0 => 0
  | n + 1 => if (t >>> (nI n &&& 31)) &&& 1 = 1 then orRa (orSa t g m n) (g n) m else orSa t g m n
theorem orRa_or (a : Int32) (f : Nat → Bool) : ∀ n, orRa a f n = a ||| orR f n
  | 0 => by show a = a ||| 0; rw [Int32.or_zero]
  | n + 1 => by
    unfold orRa orR
    rw [orRa_or a f n]
    cases f n
    · rfl
    · show (a ||| orR f n) ||| _ = a ||| (orR f n ||| _)
      rw [Int32.or_assoc]
theorem orSa_eq (t : Int32) (g : Nat → Nat → Bool) (m : Nat) : ∀ n, orSa t g m n = orS t (fun p => orR (g p) m) n
  | 0 => rfl
  | n + 1 => by
    unfold orSa orS
    rw [orSa_eq t g m n]
    by_cases h : (t >>> (nI n &&& 31)) &&& 1 = 1
    · rw [if_pos h, if_pos h, orRa_or]
    · rw [if_neg h, if_neg h]
def ce_X7_seenBy : rz_K := (3, kMk, 0, true, fun av w => ∃ (px py ph rx ry vi : Nat → Int32) (th nw si pl tr bo pn ca sp co t h : Int32) (n m : Nat), av = [.ref 50, .int t, .int h] ∧ w = wMk (oMo th (nI n) (nI m) nw si pl tr bo pn ca sp co) px py ph rx ry vi ∧ vp_in h 334 ∧ n ≤ 6 ∧ m ≤ 8, fun av w o _ => ∀ n m : Nat, rF w 50 7 = nI n → n ≤ 6 → rF w 50 8 = nI m → m ≤ 8 → rR o = orS (rA av 1) (sb (rI w 51) (rI w 52) (rI w 53) (rI w 56) (rI w 54) (rI w 55) m (rA av 2).toNatClampNeg) n)
def cl_X7_seenBy : List (Nat × rz_K) := []
def cv_X7_seenBy : List (Nat × rz_K) := [(101, ce_X7_seesAt)]
theorem vc_X7_seenBy : rz_VC k_X7_seenBy fl_X7 cl_X7_seenBy cv_X7_seenBy s_X7_seenBy false 6 ce_X7_seenBy := by
  intro av w hlen hk hpre
  obtain ⟨px, py, ph, rx, ry, vi, th, nw, si, pl, tr, bo, pn, ca, sp, co, t, h, n, m, rfl, rfl, hh, hn, hm⟩ := hpre
  generalize hg : (fun p r => decide (sn px py ph vi p (rx r) (ry r) h.toNatClampNeg)) = g
  refine ⟨Nat.le_of_ble_eq_true rfl, [
    (5, [0, 1, 2, 3, 4], fun k lv w' => ∃ i : Nat, i ≤ n ∧ lv = [(0, .ref 50), (1, .int t), (2, .int h), (3, .int (orSa t g m i)), (4, .int (nI i))] ∧ w' = wMk (oMo th (nI n) (nI m) nw si pl tr bo pn ca sp co) px py ph rx ry vi ∧ k = (n - i) * 20 + 10),
    (17, [0, 1, 2, 3, 4, 5], fun k lv w' => ∃ i r : Nat, i < n ∧ r ≤ m ∧ lv = [(0, .ref 50), (1, .int t), (2, .int h), (3, .int (if (t >>> (nI i &&& 31)) &&& 1 = 1 then orRa (orSa t g m i) (g i) r else orSa t g m i)), (4, .int (nI i)), (5, .int (nI r))] ∧ w' = wMk (oMo th (nI n) (nI m) nw si pl tr bo pn ca sp co) px py ph rx ry vi ∧ k = (n - i) * 20 + 9 - r)], 60, n * 20 + 11, ?_, ?_⟩
  · intro q hq k lv w' hj
    rcases List.mem_cons.mp hq with rfl | hq
    · obtain ⟨i, hi, rfl, rfl, rfl⟩ := hj
      conv => whnf
      refine ⟨fun c => ?_, fun c => ?_⟩
      · have e : i = n := by
          have := (nI_leI (by omega) (by omega)).mp c
          omega
        subst e
        refine ⟨⟨_, rfl⟩, fun _ => rfl, ?_⟩
        intro n' m' e1 hn' e2 hm'
        have e1 : i = n' := nI_inj (by omega) (by omega) e1
        have e2 : m = m' := nI_inj (by omega) (by omega) e2
        subst e1 e2
        show orSa t g m i = _
        rw [orSa_eq, ← hg]
        rfl
      · have hi2 : i < n := by
          rcases Nat.lt_or_ge i n with z | z
          · exact z
          · exact absurd (nI_le z (by omega)) c
        conv => whnf
        rintro _ rfl
        conv => whnf
        refine ⟨(n - i) * 20 + 9, by omega, i, 0, hi2, by omega, ?_, rfl, rfl⟩
        show [_, _, _, (3, Value.int (orSa t g m i)), _, (5, Value.int 0)] = [_, _, _, (3, Value.int (if (t >>> (nI i &&& 31)) &&& 1 = 1 then orSa t g m i else orSa t g m i)), _, (5, Value.int (nI 0))]
        rw [ite_self]
        rfl
    rcases List.mem_cons.mp hq with rfl | hq
    · obtain ⟨i, r, hi, hr, rfl, rfl, rfl⟩ := hj
      conv => whnf
      refine ⟨fun c => ?_, fun c => ?_⟩
      · have e : r = m := by
          have := (nI_leI (by omega) (by omega)).mp c
          omega
        subst e
        conv => whnf
        rintro _ rfl
        conv => whnf
        refine ⟨(n - (i + 1)) * 20 + 10, by omega, i + 1, by omega, ?_, rfl, rfl⟩
        show [_, _, _, (3, Value.int (if (t >>> (nI i &&& 31)) &&& 1 = 1 then orRa (orSa t g r i) (g i) r else orSa t g r i)), (4, Value.int (nI i + 1))] = [_, _, _, (3, Value.int (orSa t g r (i + 1))), (4, Value.int (nI (i + 1)))]
        rw [nI_1]
        rfl
      · have hr2 : r < m := by
          rcases Nat.lt_or_ge r m with z | z
          · exact z
          · exact absurd (nI_le z (by omega)) c
        have hv : vp_in (nI r) 8 := vp_in_nI (by omega) (by omega)
        conv => whnf
        refine ⟨fun c2 => ?_, fun c2 => ?_⟩
        · conv => whnf
          refine ⟨hv, ?_⟩
          conv => whnf
          refine ⟨hv, ?_⟩
          conv => whnf
          refine ⟨⟨px, py, ph, rx, ry, vi, th, nI n, nI m, nw, si, pl, tr, bo, pn, ca, sp, co, nI i, _, _, h, rfl, rfl, vp_in_nI (by omega) (by omega), hh⟩, ?_⟩
          intro b hb
          have hb : b = bI (sn px py ph vi (nI i).toNatClampNeg (rx (nI r).toNatClampNeg) (ry (nI r).toNatClampNeg) h.toNatClampNeg) := hb
          rw [nI_clamp (by omega), nI_clamp (by omega)] at hb
          subst hb
          conv => whnf
          refine ⟨fun c3 => ?_, fun c3 => ?_⟩
          · conv => whnf
            rintro _ rfl
            conv => whnf
            refine ⟨(n - i) * 20 + 9 - (r + 1), by omega, i, r + 1, hi, by omega, ?_, rfl, rfl⟩
            show [_, _, _, (3, Value.int (if (t >>> (nI i &&& 31)) &&& 1 = 1 then orRa (orSa t g m i) (g i) r else orSa t g m i)), _, (5, Value.int (nI r + 1))] = [_, _, _, (3, Value.int (if (t >>> (nI i &&& 31)) &&& 1 = 1 then orRa (orSa t g m i) (g i) (r + 1) else orSa t g m i)), _, (5, Value.int (nI (r + 1)))]
            rw [nI_1, if_pos c2, if_pos c2, orRa, if_neg (by rw [← hg]; simpa using bI_0 c3)]
          · conv => whnf
            rintro _ rfl
            conv => whnf
            rintro _ rfl
            conv => whnf
            refine ⟨(n - i) * 20 + 9 - (r + 1), by omega, i, r + 1, hi, by omega, ?_, rfl, rfl⟩
            show [_, _, _, (3, Value.int ((if (t >>> (nI i &&& 31)) &&& 1 = 1 then orRa (orSa t g m i) (g i) r else orSa t g m i) ||| _)), _, (5, Value.int (nI r + 1))] = [_, _, _, (3, Value.int (if (t >>> (nI i &&& 31)) &&& 1 = 1 then orRa (orSa t g m i) (g i) (r + 1) else orSa t g m i)), _, (5, Value.int (nI (r + 1)))]
            rw [nI_1, if_pos c2, if_pos c2, orRa, if_pos (by rw [← hg]; simpa using bI_n c3)]
        · conv => whnf
          rintro _ rfl
          conv => whnf
          refine ⟨(n - i) * 20 + 9 - (r + 1), by omega, i, r + 1, hi, by omega, ?_, rfl, rfl⟩
          show [_, _, _, (3, Value.int (if (t >>> (nI i &&& 31)) &&& 1 = 1 then orRa (orSa t g m i) (g i) r else orSa t g m i)), _, (5, Value.int (nI r + 1))] = [_, _, _, (3, Value.int (if (t >>> (nI i &&& 31)) &&& 1 = 1 then orRa (orSa t g m i) (g i) (r + 1) else orSa t g m i)), _, (5, Value.int (nI (r + 1)))]
          rw [nI_1, if_neg c2, if_neg c2]
    · exact absurd hq List.not_mem_nil
  · conv => whnf
    rintro _ rfl
    conv => whnf
    rintro _ rfl
    conv => whnf
    refine ⟨n * 20 + 10, by omega, 0, by omega, rfl, rfl, by omega⟩
theorem rv_X7_seenBy : rz_Rv yX7_seenBy.cls ce_X7_seenBy := fun av w h => by
  obtain ⟨_, _, _, _, _, _, _, _, _, _, _, _, _, _, _, _, _, _, _, _, rfl, rfl, _⟩ := h
  exact ⟨_, _, _, _, _, _, rfl, rfl, rfl⟩
theorem cn_X7_seenBy (l : Launch) : rz_Con l yX7_seenBy cX7_seenBy 6 (some .int) 1 0 0 ce_X7_seenBy := rz_con (by decide +kernel) fo_X7 (fun _ h => absurd h List.not_mem_nil) (by
  intro q hq
  rcases List.mem_cons.mp hq with rfl | hq
  · exact rz_callV (cn_X7_seesAt l) (by decide +kernel) ⟨Nat.le_of_ble_eq_true rfl, Nat.le_of_ble_eq_true rfl⟩ m_X7_seesAt rfl i_X7_seesAt v_X7_seesAt rv_X7_seesAt n_X7_101
  exact absurd hq List.not_mem_nil) r_X7_seenBy vc_X7_seenBy
def bits (t : Int32) : Nat → Int32
  | 0 => 0
  | n + 1 => bits t n + ((t >>> (nI n &&& 31)) &&& 1)
def ce_X7_bits : rz_K := (1, [], 0, true, fun av w => ∃ t : Int32, av = [.int t] ∧ w = [] ∧ True, fun av _ o _ => rR o = bits (rA av 0) 10)
theorem vc_X7_bits : rz_VC k_X7_bits fl_X7 [] [] s_X7_bits false 3 ce_X7_bits := by
  intro av w hlen hk hpre
  obtain ⟨t, rfl, rfl, -⟩ := hpre
  refine ⟨Nat.le_of_ble_eq_true rfl, [(4, [0, 1, 2], fun k lv w' => ∃ i : Nat, i ≤ 10 ∧ lv = [(0, .int t), (1, .int (bits t i)), (2, .int (nI i))] ∧ w' = [] ∧ k = 10 - i)], 60, 11, ?_, ?_⟩
  · intro q hq k lv w' hj
    rcases List.mem_cons.mp hq with rfl | hq
    · obtain ⟨i, hi, rfl, rfl, rfl⟩ := hj
      conv => whnf
      refine ⟨fun c => ?_, fun c => ?_⟩
      · have c : nI 10 ≤ nI i := c
        have e : i = 10 := by
          have := (nI_leI (by omega) (by omega)).mp c
          omega
        subst e
        exact ⟨⟨_, rfl⟩, fun _ => rfl, rfl⟩
      · have c : ¬ nI 10 ≤ nI i := c
        have hi2 : i < 10 := by
          rcases Nat.lt_or_ge i 10 with z | z
          · exact z
          · exact absurd (nI_le z (by omega)) c
        conv => whnf
        rintro _ rfl
        conv => whnf
        rintro _ rfl
        conv => whnf
        refine ⟨10 - (i + 1), by omega, i + 1, by omega, ?_, rfl, rfl⟩
        show [_, (1, Value.int (bits t i + _)), (2, Value.int (nI i + 1))] = [_, (1, Value.int (bits t (i + 1))), (2, Value.int (nI (i + 1)))]
        rw [nI_1]
        rfl
    · exact absurd hq List.not_mem_nil
  · conv => whnf
    rintro _ rfl
    conv => whnf
    rintro _ rfl
    conv => whnf
    refine ⟨10, by omega, 0, by omega, rfl, rfl, rfl⟩
theorem cn_X7_bits (l : Launch) : rz_Con l yX7_bits cX7_bits 3 (some .int) 0 0 0 ce_X7_bits := rz_con (by decide +kernel) fo_X7 (fun _ h => absurd h List.not_mem_nil) (fun _ h => absurd h List.not_mem_nil) r_X7_bits vc_X7_bits
/-- downwards, and for as few posts too -/
def bestD (ok : Nat → Bool) (b0 : Int32) : Nat → Nat → Int32
  | _, 0 => b0
  | N, k + 1 => if ok (N - (k + 1)) = true ∧ bits (nI (N - (k + 1))) 10 ≤ bits (bestD ok b0 N k) 10 then nI (N - (k + 1)) else bestD ok b0 N k
end
section
/-! The reference's public methods on posts, reaches, weather. -/
def mset (w : rz_W) (k : Nat) (v : Int32) : rz_W := match rz_get w 50 with
  | some (.inl (c, fs)) => rz_set w 50 (.inl (c, fs.set k (.int v)))
  | _ => w
def ce_X7_post : rz_K := (4, kMk, 0, false, fun av w => ∃ (px py ph rx ry vi : Nat → Int32) (th re nw si pl tr bo pn ca sp co x y z : Int32) (n : Nat), av = [.ref 50, .int x, .int y, .int z] ∧ w = wMk (oMo th (nI n) re nw si pl tr bo pn ca sp co) px py ph rx ry vi ∧ n ≤ 6, fun av w o w' => ∀ n : Nat, rF w 50 7 = nI n → n ≤ 6 → if okP (rA av 1) (rA av 2) ∧ okH (rA av 3) ∧ n < 6 then rR o = nI n ∧ w' = rz_set (rz_set (rz_set (mset (mset w 0 0) 7 (nI (n + 1))) 51 (ri 6 (upd (rI w 51) n (rA av 1)))) 52 (ri 6 (upd (rI w 52) n (rA av 2)))) 53 (ri 6 (upd (rI w 53) n (rA av 3))) else rR o = -1 ∧ w' = mset w 0 0)
def cl_X7_post : List (Nat × rz_K) := [(87, ce_X7_isIn), (94, ce_X7_isPlace)]
def cv_X7_post : List (Nat × rz_K) := []
theorem vc_X7_post : rz_VC k_X7_post fl_X7 cl_X7_post cv_X7_post s_X7_post false 4 ce_X7_post := by
  intro av w hlen hk hpre
  obtain ⟨px, py, ph, rx, ry, vi, th, re, nw, si, pl, tr, bo, pn, ca, sp, co, x, y, z, n, rfl, rfl, hn⟩ := hpre
  refine ⟨Nat.le_of_ble_eq_true rfl, [], 90, 0, fun q h => absurd h List.not_mem_nil, ?_⟩
  have no : ¬ (okP x y ∧ okH z ∧ n < 6) → rz_end ce_X7_post [.ref 50, .int x, .int y, .int z] (wMk (oMo th (nI n) re nw si pl tr bo pn ca sp co) px py ph rx ry vi) (some (.int (-1))) (wMk (oMo 0 (nI n) re nw si pl tr bo pn ca sp co) px py ph rx ry vi) := by
    intro z1
    refine ⟨⟨_, rfl⟩, fun z => (by cases z), ?_⟩
    intro n' e hn'
    have e : n = n' := nI_inj (by omega) (by omega) e
    subst e
    exact if_no z1 ⟨rfl, rfl⟩
  conv => whnf
  refine ⟨fun h => ?_, fun h => ?_⟩
  · have h : nI n = nI 6 := h
    have h := nI_inj (by omega) (by omega) h
    exact no (fun z => by omega)
  · have h : ¬ nI n = nI 6 := h
    have hn2 : n < 6 := by
      rcases Nat.lt_or_ge n 6 with q | q
      · exact q
      · exact absurd (congrArg nI (show n = 6 by omega)) h
    have hv : vp_in (nI n) 6 := vp_in_nI hn2 (by omega)
    conv => whnf
    refine ⟨⟨_, _, rfl, rfl, trivial⟩, ?_⟩
    intro r hr
    obtain rfl : r = bI (okP x y) := hr
    conv => whnf
    refine ⟨fun h1 => ?_, fun h1 => ?_⟩
    · exact no (fun z => bI_0 h1 z.1)
    · conv => whnf
      refine ⟨⟨_, _, _, rfl, rfl, trivial⟩, ?_⟩
      intro r hr
      obtain rfl : r = bI (okH z) := hr
      conv => whnf
      refine ⟨fun h2 => ?_, fun h2 => ?_⟩
      · exact no (fun z => bI_0 h2 z.2.1)
      · conv => whnf
        refine ⟨hv, ?_⟩
        conv => whnf
        refine ⟨hv, ?_⟩
        conv => whnf
        refine ⟨hv, ?_⟩
        conv => whnf
        refine ⟨⟨_, rfl⟩, fun z => (by cases z), ?_⟩
        intro n' e hn'
        have e : n = n' := nI_inj (by omega) (by omega) e
        subst e
        refine if_yes ⟨bI_n h1, bI_n h2, hn2⟩ ⟨?_, ?_⟩
        · show nI n + 1 - 1 = nI n
          exact i32_asc _
        · show wMk (oMo 0 (nI n + 1) re nw si pl tr bo pn ca sp co) (upd px (nI n).toNatClampNeg x) (upd py (nI n).toNatClampNeg y) (upd ph (nI n).toNatClampNeg z) rx ry vi = _
          rw [nI_1, nI_clamp (by omega)]
          rfl
theorem rv_X7_post : rz_Rv yX7_post.cls ce_X7_post := fun av w h => by
  obtain ⟨_, _, _, _, _, _, _, _, _, _, _, _, _, _, _, _, _, _, _, _, _, rfl, rfl, _⟩ := h
  exact ⟨_, _, _, _, _, _, rfl, rfl, rfl⟩
theorem cn_X7_post (l : Launch) : rz_Con l yX7_post cX7_post 4 (some .int) 2 0 0 ce_X7_post := rz_con (by decide +kernel) fo_X7 (by
  intro q hq
  rcases List.mem_cons.mp hq with rfl | hq
  · exact rz_callS (cn_X7_isIn l) (by decide +kernel) ⟨Nat.le_of_ble_eq_true rfl, Nat.le_of_ble_eq_true rfl⟩ m_X7_isIn t_X7_isIn n_X7_87
  rcases List.mem_cons.mp hq with rfl | hq
  · exact rz_callS (cn_X7_isPlace l) (by decide +kernel) ⟨Nat.le_of_ble_eq_true rfl, Nat.le_of_ble_eq_true rfl⟩ m_X7_isPlace t_X7_isPlace n_X7_94
  exact absurd hq List.not_mem_nil) (fun _ h => absurd h List.not_mem_nil) r_X7_post vc_X7_post
def ce_X7_reach : rz_K := (3, kMk, 0, false, fun av w => ∃ (px py ph rx ry vi : Nat → Int32) (th po nw si pl tr bo pn ca sp co x y : Int32) (n : Nat), av = [.ref 50, .int x, .int y] ∧ w = wMk (oMo th po (nI n) nw si pl tr bo pn ca sp co) px py ph rx ry vi ∧ n ≤ 8, fun av w o w' => ∀ n : Nat, rF w 50 8 = nI n → n ≤ 8 → if okP (rA av 1) (rA av 2) ∧ n < 8 then rR o = nI n ∧ w' = rz_set (rz_set (mset (mset w 0 0) 8 (nI (n + 1))) 54 (ri 8 (upd (rI w 54) n (rA av 1)))) 55 (ri 8 (upd (rI w 55) n (rA av 2))) else rR o = -1 ∧ w' = mset w 0 0)
def cl_X7_reach : List (Nat × rz_K) := [(94, ce_X7_isPlace)]
def cv_X7_reach : List (Nat × rz_K) := []
theorem vc_X7_reach : rz_VC k_X7_reach fl_X7 cl_X7_reach cv_X7_reach s_X7_reach false 3 ce_X7_reach := by
  intro av w hlen hk hpre
  obtain ⟨px, py, ph, rx, ry, vi, th, po, nw, si, pl, tr, bo, pn, ca, sp, co, x, y, n, rfl, rfl, hn⟩ := hpre
  refine ⟨Nat.le_of_ble_eq_true rfl, [], 90, 0, fun q h => absurd h List.not_mem_nil, ?_⟩
  have no : ¬ (okP x y ∧ n < 8) → rz_end ce_X7_reach [.ref 50, .int x, .int y] (wMk (oMo th po (nI n) nw si pl tr bo pn ca sp co) px py ph rx ry vi) (some (.int (-1))) (wMk (oMo 0 po (nI n) nw si pl tr bo pn ca sp co) px py ph rx ry vi) := by
    intro z1
    refine ⟨⟨_, rfl⟩, fun z => (by cases z), ?_⟩
    intro n' e hn'
    have e : n = n' := nI_inj (by omega) (by omega) e
    subst e
    exact if_no z1 ⟨rfl, rfl⟩
  conv => whnf
  refine ⟨fun h => ?_, fun h => ?_⟩
  · have h : nI n = nI 8 := h
    have h := nI_inj (by omega) (by omega) h
    exact no (fun z => by omega)
  · have h : ¬ nI n = nI 8 := h
    have hn2 : n < 8 := by
      rcases Nat.lt_or_ge n 8 with q | q
      · exact q
      · exact absurd (congrArg nI (show n = 8 by omega)) h
    have hv : vp_in (nI n) 8 := vp_in_nI hn2 (by omega)
    conv => whnf
    refine ⟨⟨_, _, rfl, rfl, trivial⟩, ?_⟩
    intro r hr
    obtain rfl : r = bI (okP x y) := hr
    conv => whnf
    refine ⟨fun h1 => ?_, fun h1 => ?_⟩
    · exact no (fun z => bI_0 h1 z.1)
    · conv => whnf
      refine ⟨hv, ?_⟩
      conv => whnf
      refine ⟨hv, ?_⟩
      conv => whnf
      refine ⟨⟨_, rfl⟩, fun z => (by cases z), ?_⟩
      intro n' e hn'
      have e : n = n' := nI_inj (by omega) (by omega) e
      subst e
      refine if_yes ⟨bI_n h1, hn2⟩ ⟨?_, ?_⟩
      · show nI n + 1 - 1 = nI n
        exact i32_asc _
      · show wMk (oMo 0 po (nI n + 1) nw si pl tr bo pn ca sp co) px py ph (upd rx (nI n).toNatClampNeg x) (upd ry (nI n).toNatClampNeg y) vi = _
        rw [nI_1, nI_clamp (by omega)]
        rfl
theorem rv_X7_reach : rz_Rv yX7_reach.cls ce_X7_reach := fun av w h => by
  obtain ⟨_, _, _, _, _, _, _, _, _, _, _, _, _, _, _, _, _, _, _, _, rfl, rfl, _⟩ := h
  exact ⟨_, _, _, _, _, _, rfl, rfl, rfl⟩
theorem cn_X7_reach (l : Launch) : rz_Con l yX7_reach cX7_reach 3 (some .int) 2 0 0 ce_X7_reach := rz_con (by decide +kernel) fo_X7 (by
  intro q hq
  rcases List.mem_cons.mp hq with rfl | hq
  · exact rz_callS (cn_X7_isPlace l) (by decide +kernel) ⟨Nat.le_of_ble_eq_true rfl, Nat.le_of_ble_eq_true rfl⟩ m_X7_isPlace t_X7_isPlace n_X7_94
  exact absurd hq List.not_mem_nil) (fun _ h => absurd h List.not_mem_nil) r_X7_reach vc_X7_reach
def ce_X7_weather : rz_K := (3, kMk, 0, false, fun av w => ∃ (px py ph rx ry vi : Nat → Int32) (th po re nw si pl tr bo pn ca sp co h v : Int32), av = [.ref 50, .int h, .int v] ∧ w = wMk (oMo th po re nw si pl tr bo pn ca sp co) px py ph rx ry vi ∧ True, fun av w o w' => if okO (rA av 1) ∧ okV (rA av 2) then rR o = 1 ∧ w' = rz_set (mset w 0 0) 56 (ri 334 (upd (rI w 56) (rA av 1).toNatClampNeg (rA av 2))) else rR o = 0 ∧ w' = mset w 0 0)
def cl_X7_weather : List (Nat × rz_K) := [(87, ce_X7_isIn)]
def cv_X7_weather : List (Nat × rz_K) := []
theorem vc_X7_weather : rz_VC k_X7_weather fl_X7 cl_X7_weather cv_X7_weather s_X7_weather true 3 ce_X7_weather := by
  intro av w hlen hk hpre
  obtain ⟨px, py, ph, rx, ry, vi, th, po, re, nw, si, pl, tr, bo, pn, ca, sp, co, h, v, rfl, rfl, -⟩ := hpre
  refine ⟨Nat.le_of_ble_eq_true rfl, [], 60, 0, fun q h => absurd h List.not_mem_nil, ?_⟩
  conv => whnf
  refine ⟨⟨_, _, _, rfl, rfl, trivial⟩, ?_⟩
  intro r hr
  obtain rfl : r = bI (okO h) := hr
  conv => whnf
  refine ⟨fun h1 => ?_, fun h1 => ?_⟩
  · exact ⟨Or.inl rfl, ⟨_, rfl⟩, fun z => (by cases z), if_no (fun z => bI_0 h1 z.1) ⟨rfl, rfl⟩⟩
  · conv => whnf
    refine ⟨⟨_, _, _, rfl, rfl, trivial⟩, ?_⟩
    intro r hr
    obtain rfl : r = bI (okV v) := hr
    conv => whnf
    refine ⟨fun h2 => ?_, fun h2 => ?_⟩
    · exact ⟨Or.inl rfl, ⟨_, rfl⟩, fun z => (by cases z), if_no (fun z => bI_0 h2 z.2) ⟨rfl, rfl⟩⟩
    · conv => whnf
      refine ⟨vp_of2 (bI_n h1).1 (bI_n h1).2 rfl, ?_⟩
      conv => whnf
      exact ⟨Or.inr rfl, ⟨_, rfl⟩, fun z => (by cases z), if_yes ⟨bI_n h1, bI_n h2⟩ ⟨rfl, rfl⟩⟩
theorem rv_X7_weather : rz_Rv yX7_weather.cls ce_X7_weather := fun av w h => by
  obtain ⟨_, _, _, _, _, _, _, _, _, _, _, _, _, _, _, _, _, _, _, _, rfl, rfl, _⟩ := h
  exact ⟨_, _, _, _, _, _, rfl, rfl, rfl⟩
theorem cn_X7_weather (l : Launch) : rz_Con l yX7_weather cX7_weather 3 (some .boolean) 1 0 0 ce_X7_weather := rz_con (by decide +kernel) fo_X7 (by
  intro q hq
  rcases List.mem_cons.mp hq with rfl | hq
  · exact rz_callS (cn_X7_isIn l) (by decide +kernel) ⟨Nat.le_of_ble_eq_true rfl, Nat.le_of_ble_eq_true rfl⟩ m_X7_isIn t_X7_isIn n_X7_87
  exact absurd hq List.not_mem_nil) (fun _ h => absurd h List.not_mem_nil) r_X7_weather vc_X7_weather
def ce_X7_sees : rz_K := (5, kMk, 0, false, fun av w => ∃ (px py ph rx ry vi : Nat → Int32) (th re nw si pl tr bo pn ca sp co p x y h : Int32) (n : Nat), av = [.ref 50, .int p, .int x, .int y, .int h] ∧ w = wMk (oMo th (nI n) re nw si pl tr bo pn ca sp co) px py ph rx ry vi ∧ n ≤ 6, fun av w o w' => (∀ n : Nat, rF w 50 7 = nI n → n ≤ 6 → rR o = if okS (rA av 1) n ∧ okP (rA av 2) (rA av 3) ∧ okO (rA av 4) then bI (sn (rI w 51) (rI w 52) (rI w 53) (rI w 56) (rA av 1).toNatClampNeg (rA av 2) (rA av 3) (rA av 4).toNatClampNeg) else -1) ∧ w' = mset w 0 0)
def cl_X7_sees : List (Nat × rz_K) := [(87, ce_X7_isIn), (94, ce_X7_isPlace)]
def cv_X7_sees : List (Nat × rz_K) := [(101, ce_X7_seesAt)]
theorem vc_X7_sees : rz_VC k_X7_sees fl_X7 cl_X7_sees cv_X7_sees s_X7_sees false 5 ce_X7_sees := by
  intro av w hlen hk hpre
  obtain ⟨px, py, ph, rx, ry, vi, th, re, nw, si, pl, tr, bo, pn, ca, sp, co, p, x, y, h, n, rfl, rfl, hn⟩ := hpre
  refine ⟨Nat.le_of_ble_eq_true rfl, [], 90, 0, fun q h => absurd h List.not_mem_nil, ?_⟩
  have fin : ∀ v : Int32, (v = if okS p n ∧ okP x y ∧ okO h then bI (sn px py ph vi p.toNatClampNeg x y h.toNatClampNeg) else -1) → rz_end ce_X7_sees [.ref 50, .int p, .int x, .int y, .int h] (wMk (oMo th (nI n) re nw si pl tr bo pn ca sp co) px py ph rx ry vi) (some (.int v)) (wMk (oMo 0 (nI n) re nw si pl tr bo pn ca sp co) px py ph rx ry vi) := by
    intro v hv
    refine ⟨⟨_, rfl⟩, fun z => (by cases z), ?_, rfl⟩
    intro n' e hn'
    have e : n = n' := nI_inj (by omega) (by omega) e
    subst e
    exact hv
  conv => whnf
  refine ⟨⟨_, _, _, rfl, rfl, trivial⟩, ?_⟩
  intro r hr
  obtain rfl : r = bI (okS p n) := hr
  conv => whnf
  refine ⟨fun h1 => ?_, fun h1 => ?_⟩
  · exact fin _ (if_neg (fun z => bI_0 h1 z.1)).symm
  · conv => whnf
    refine ⟨⟨_, _, rfl, rfl, trivial⟩, ?_⟩
    intro r hr
    obtain rfl : r = bI (okP x y) := hr
    conv => whnf
    refine ⟨fun h2 => ?_, fun h2 => ?_⟩
    · exact fin _ (if_neg (fun z => bI_0 h2 z.2.1)).symm
    · conv => whnf
      refine ⟨⟨_, _, _, rfl, rfl, trivial⟩, ?_⟩
      intro r hr
      obtain rfl : r = bI (okO h) := hr
      conv => whnf
      refine ⟨fun h3 => ?_, fun h3 => ?_⟩
      · exact fin _ (if_neg (fun z => bI_0 h3 z.2.2)).symm
      · conv => whnf
        refine ⟨⟨px, py, ph, rx, ry, vi, 0, nI n, re, nw, si, pl, tr, bo, pn, ca, sp, co, p, x, y, h, rfl, rfl, okS_vp (bI_n h1) hn (by omega), vp_of2 (bI_n h3).1 (bI_n h3).2 rfl⟩, ?_⟩
        intro r hr
        obtain rfl : r = bI (sn px py ph vi p.toNatClampNeg x y h.toNatClampNeg) := hr
        have fin2 := fun v (hv : v = bI (sn px py ph vi p.toNatClampNeg x y h.toNatClampNeg)) => fin v (hv.trans (if_pos ⟨bI_n h1, bI_n h2, bI_n h3⟩).symm)
        conv => whnf
        refine ⟨fun h4 => ?_, fun h4 => ?_⟩
        · exact fin2 _ h4.symm
        · exact fin2 _ (bI_t (bI_n h4))
theorem rv_X7_sees : rz_Rv yX7_sees.cls ce_X7_sees := fun av w h => by
  obtain ⟨_, _, _, _, _, _, _, _, _, _, _, _, _, _, _, _, _, _, _, _, _, _, rfl, rfl, _⟩ := h
  exact ⟨_, _, _, _, _, _, rfl, rfl, rfl⟩
theorem cn_X7_sees (l : Launch) : rz_Con l yX7_sees cX7_sees 5 (some .int) 2 0 0 ce_X7_sees := rz_con (by decide +kernel) fo_X7 (by
  intro q hq
  rcases List.mem_cons.mp hq with rfl | hq
  · exact rz_callS (cn_X7_isIn l) (by decide +kernel) ⟨Nat.le_of_ble_eq_true rfl, Nat.le_of_ble_eq_true rfl⟩ m_X7_isIn t_X7_isIn n_X7_87
  rcases List.mem_cons.mp hq with rfl | hq
  · exact rz_callS (cn_X7_isPlace l) (by decide +kernel) ⟨Nat.le_of_ble_eq_true rfl, Nat.le_of_ble_eq_true rfl⟩ m_X7_isPlace t_X7_isPlace n_X7_94
  exact absurd hq List.not_mem_nil) (by
  intro q hq
  rcases List.mem_cons.mp hq with rfl | hq
  · exact rz_callV (cn_X7_seesAt l) (by decide +kernel) ⟨Nat.le_of_ble_eq_true rfl, Nat.le_of_ble_eq_true rfl⟩ m_X7_seesAt rfl i_X7_seesAt v_X7_seesAt rv_X7_seesAt n_X7_101
  exact absurd hq List.not_mem_nil) r_X7_sees vc_X7_sees
def ce_X7_open : rz_K := (2, kMk, 0, false, fun av w => ∃ (px py ph rx ry vi : Nat → Int32) (th nw si pl tr bo pn ca sp co h : Int32) (n m : Nat), av = [.ref 50, .int h] ∧ w = wMk (oMo th (nI n) (nI m) nw si pl tr bo pn ca sp co) px py ph rx ry vi ∧ n ≤ 6 ∧ m ≤ 8, fun av w o w' => (∀ n m : Nat, rF w 50 7 = nI n → n ≤ 6 → rF w 50 8 = nI m → m ≤ 8 → rR o = if okO (rA av 1) then ((1 : Int32) <<< (nI m &&& 31) - 1) &&& (orS (nI (2 ^ n - 1)) (sb (rI w 51) (rI w 52) (rI w 53) (rI w 56) (rI w 54) (rI w 55) m (rA av 1).toNatClampNeg) n ^^^ (-1)) else -1) ∧ w' = mset w 0 0)
def cl_X7_open : List (Nat × rz_K) := [(87, ce_X7_isIn)]
def cv_X7_open : List (Nat × rz_K) := [(105, ce_X7_seenBy)]
theorem vc_X7_open : rz_VC k_X7_open fl_X7 cl_X7_open cv_X7_open s_X7_open false 2 ce_X7_open := by
  intro av w hlen hk hpre
  obtain ⟨px, py, ph, rx, ry, vi, th, nw, si, pl, tr, bo, pn, ca, sp, co, h, n, m, rfl, rfl, hn, hm⟩ := hpre
  refine ⟨Nat.le_of_ble_eq_true rfl, [], 90, 0, fun q h => absurd h List.not_mem_nil, ?_⟩
  have fin : ∀ v : Int32, (v = if okO h then ((1 : Int32) <<< (nI m &&& 31) - 1) &&& (orS (nI (2 ^ n - 1)) (sb px py ph vi rx ry m h.toNatClampNeg) n ^^^ (-1)) else -1) → rz_end ce_X7_open [.ref 50, .int h] (wMk (oMo th (nI n) (nI m) nw si pl tr bo pn ca sp co) px py ph rx ry vi) (some (.int v)) (wMk (oMo 0 (nI n) (nI m) nw si pl tr bo pn ca sp co) px py ph rx ry vi) := by
    intro v hv
    refine ⟨⟨_, rfl⟩, fun z => (by cases z), ?_, rfl⟩
    intro n' m' e hn' e2 hm'
    have e : n = n' := nI_inj (by omega) (by omega) e
    have e2 : m = m' := nI_inj (by omega) (by omega) e2
    subst e e2
    exact hv
  conv => whnf
  refine ⟨⟨_, _, _, rfl, rfl, trivial⟩, ?_⟩
  intro r hr
  obtain rfl : r = bI (okO h) := hr
  conv => whnf
  refine ⟨fun h1 => ?_, fun h1 => ?_⟩
  · exact fin _ (if_neg (bI_0 h1)).symm
  · conv => whnf
    refine ⟨⟨px, py, ph, rx, ry, vi, 0, nw, si, pl, tr, bo, pn, ca, sp, co, _, h, n, m, rfl, rfl, vp_of2 (bI_n h1).1 (bI_n h1).2 rfl, hn, hm⟩, ?_⟩
    intro r hr
    replace hr := hr n m rfl hn rfl hm
    have hr : r = orS ((1 : Int32) <<< (nI n &&& 31) - 1) (sb px py ph vi rx ry m h.toNatClampNeg) n := hr
    rw [(rz_shl1 n (by omega)).2] at hr
    conv => whnf
    refine fin _ ?_
    rw [if_pos (bI_n h1), hr]
theorem rv_X7_open : rz_Rv yX7_open.cls ce_X7_open := fun av w h => by
  obtain ⟨_, _, _, _, _, _, _, _, _, _, _, _, _, _, _, _, _, _, _, rfl, rfl, _⟩ := h
  exact ⟨_, _, _, _, _, _, rfl, rfl, rfl⟩
theorem cn_X7_open (l : Launch) : rz_Con l yX7_open cX7_open 2 (some .int) 2 0 0 ce_X7_open := rz_con (by decide +kernel) fo_X7 (by
  intro q hq
  rcases List.mem_cons.mp hq with rfl | hq
  · exact rz_callS (cn_X7_isIn l) (by decide +kernel) ⟨Nat.le_of_ble_eq_true rfl, Nat.le_of_ble_eq_true rfl⟩ m_X7_isIn t_X7_isIn n_X7_87
  exact absurd hq List.not_mem_nil) (by
  intro q hq
  rcases List.mem_cons.mp hq with rfl | hq
  · exact rz_callV (cn_X7_seenBy l) (by decide +kernel) ⟨Nat.le_of_ble_eq_true rfl, Nat.le_of_ble_eq_true rfl⟩ m_X7_seenBy rfl i_X7_seenBy v_X7_seenBy rv_X7_seenBy n_X7_105
  exact absurd hq List.not_mem_nil) r_X7_open vc_X7_open
theorem bestD_s (ok : Nat → Bool) (b0 : Int32) (N k : Nat) : bestD ok b0 N (k + 1) = if ok (N - (k + 1)) = true ∧ bits (nI (N - (k + 1))) 10 ≤ bits (bestD ok b0 N k) 10 then nI (N - (k + 1)) else bestD ok b0 N k := rfl
def ce_X7_manned : rz_K := (2, kMk, 0, false, fun av w => ∃ (px py ph rx ry vi : Nat → Int32) (th nw si pl tr bo pn ca sp co h : Int32) (n m : Nat), av = [.ref 50, .int h] ∧ w = wMk (oMo th (nI n) (nI m) nw si pl tr bo pn ca sp co) px py ph rx ry vi ∧ n ≤ 6 ∧ m ≤ 8, fun av w o w' => (∀ n m : Nat, rF w 50 7 = nI n → n ≤ 6 → rF w 50 8 = nI m → m ≤ 8 → rR o = if okO (rA av 1) then bestD (fun t => decide (orS (nI t) (sb (rI w 51) (rI w 52) (rI w 53) (rI w 56) (rI w 54) (rI w 55) m (rA av 1).toNatClampNeg) n = orS (nI (2 ^ n - 1)) (sb (rI w 51) (rI w 52) (rI w 53) (rI w 56) (rI w 54) (rI w 55) m (rA av 1).toNatClampNeg) n)) (nI (2 ^ n - 1)) (2 ^ n) (2 ^ n) else -1) ∧ w' = mset w 0 0)
def cl_X7_manned : List (Nat × rz_K) := [(87, ce_X7_isIn), (109, ce_X7_bits)]
def cv_X7_manned : List (Nat × rz_K) := [(105, ce_X7_seenBy)]
theorem vc_X7_manned : rz_VC k_X7_manned fl_X7 cl_X7_manned cv_X7_manned s_X7_manned false 5 ce_X7_manned := by
  intro av w hlen hk hpre
  obtain ⟨px, py, ph, rx, ry, vi, th, nw, si, pl, tr, bo, pn, ca, sp, co, h, n, m, rfl, rfl, hn, hm⟩ := hpre
  generalize hf : sb px py ph vi rx ry m h.toNatClampNeg = f
  have hpow : 2 ^ n ≤ 64 := Nat.le_trans (Nat.pow_le_pow_right (by omega) hn) (by decide)
  have hpos : 0 < 2 ^ n := Nat.pow_pos (by omega)
  obtain ⟨hs1, hs2⟩ := rz_shl1 n (by omega)
  generalize hB : bestD (fun t => decide (orS (nI t) f n = orS (nI (2 ^ n - 1)) f n)) (nI (2 ^ n - 1)) (2 ^ n) = B
  have fin : ∀ v : Int32, (v = if okO h then B (2 ^ n) else -1) → rz_end ce_X7_manned [.ref 50, .int h] (wMk (oMo th (nI n) (nI m) nw si pl tr bo pn ca sp co) px py ph rx ry vi) (some (.int v)) (wMk (oMo 0 (nI n) (nI m) nw si pl tr bo pn ca sp co) px py ph rx ry vi) := by
    intro v hv
    refine ⟨⟨_, rfl⟩, fun z => (by cases z), ?_, rfl⟩
    intro n' m' e hn' e2 hm'
    have e : n = n' := nI_inj (by omega) (by omega) e
    have e2 : m = m' := nI_inj (by omega) (by omega) e2
    subst e e2
    rw [hv, ← hB, ← hf]
    rfl
  have look : ∀ (t : Nat) (r : Int32), ce_X7_seenBy.2.2.2.2.2 [.ref 50, .int (nI t), .int h] (wMk (oMo 0 (nI n) (nI m) nw si pl tr bo pn ca sp co) px py ph rx ry vi) (some (.int r)) (wMk (oMo 0 (nI n) (nI m) nw si pl tr bo pn ca sp co) px py ph rx ry vi) → r = orS (nI t) f n := by
    intro t r hr
    replace hr := hr n m rfl hn rfl hm
    rw [← hf]
    exact hr
  refine ⟨Nat.le_of_ble_eq_true rfl, [(51, [0, 1, 2, 3, 4], fun k lv w' => okO h ∧ ∃ j : Nat, j ≤ 2 ^ n ∧ lv = [(0, .ref 50), (1, .int h), (2, .int (orS (nI (2 ^ n - 1)) f n)), (3, .int (B j)), (4, .int (nI (2 ^ n - j) - 1))] ∧ w' = wMk (oMo 0 (nI n) (nI m) nw si pl tr bo pn ca sp co) px py ph rx ry vi ∧ k = 2 ^ n - j)], 90, 2 ^ n + 1, ?_, ?_⟩
  · intro q hq k lv w' hj
    rcases List.mem_cons.mp hq with rfl | hq
    · obtain ⟨hO, j, hj, rfl, rfl, rfl⟩ := hj
      have hvh : vp_in h 334 := vp_of2 hO.1 hO.2 rfl
      conv => whnf
      refine ⟨fun c => ?_, fun c => ?_⟩
      · have e : j = 2 ^ n := by
          rcases Nat.lt_or_ge j (2 ^ n) with z | z
          · obtain ⟨d, hd⟩ : ∃ d, 2 ^ n - j = d + 1 := ⟨2 ^ n - j - 1, by omega⟩
            have c : nI (2 ^ n - j) - 1 < 0 := c
            rw [hd, nI_pred] at c
            exact absurd c (nI_pos (by omega))
          · omega
        subst e
        exact fin _ (if_pos hO).symm
      · have hj2 : j < 2 ^ n := by
          rcases Nat.lt_or_ge j (2 ^ n) with z | z
          · exact z
          · have e : j = 2 ^ n := by omega
            subst e
            rw [Nat.sub_self] at c
            exact absurd (by decide) c
        obtain ⟨d, hd⟩ : ∃ d, 2 ^ n - j = d + 1 := ⟨2 ^ n - j - 1, by omega⟩
        have ed : nI (2 ^ n - j) - 1 = nI d := by rw [hd, nI_pred]
        have ed2 : 2 ^ n - (j + 1) = d := by omega
        rw [ed] at *
        have stay : ¬ (decide (orS (nI d) f n = orS (nI (2 ^ n - 1)) f n) = true ∧ bits (nI d) 10 ≤ bits (B j) 10) → B (j + 1) = B j := fun z => by
          rw [← hB] at z ⊢
          rw [bestD_s, ed2]
          exact if_neg z
        have take : (decide (orS (nI d) f n = orS (nI (2 ^ n - 1)) f n) = true ∧ bits (nI d) 10 ≤ bits (B j) 10) → B (j + 1) = nI d := fun z => by
          rw [← hB] at z ⊢
          rw [bestD_s, ed2]
          exact if_pos z
        have em : nI d + (-1) = nI (2 ^ n - (j + 1)) - 1 := by
          rw [ed2, Int32.sub_eq_add_neg]
        conv => whnf
        refine ⟨⟨px, py, ph, rx, ry, vi, 0, nw, si, pl, tr, bo, pn, ca, sp, co, nI d, h, n, m, rfl, rfl, hvh, hn, hm⟩, ?_⟩
        intro r hr
        obtain rfl := look d r hr
        conv => whnf
        refine ⟨fun c2 => ?_, fun c2 => ?_⟩
        · conv => whnf
          refine ⟨⟨_, rfl, rfl, trivial⟩, ?_⟩
          intro r1 hr1
          obtain rfl : r1 = bits (nI d) 10 := hr1
          conv => whnf
          refine ⟨⟨_, rfl, rfl, trivial⟩, ?_⟩
          intro r2 hr2
          obtain rfl : r2 = bits (B j) 10 := hr2
          conv => whnf
          refine ⟨fun c3 => ?_, fun c3 => ?_⟩
          · conv => whnf
            rintro _ rfl
            conv => whnf
            refine ⟨2 ^ n - (j + 1), by omega, hO, j + 1, by omega, ?_, rfl, rfl⟩
            show [_, _, _, (3, Value.int (B j)), (4, Value.int (nI d + (-1)))] = [_, _, _, (3, Value.int (B (j + 1))), (4, Value.int (nI (2 ^ n - (j + 1)) - 1))]
            rw [em, stay (fun z => absurd z.2 ((i32_not_le _ _).mpr c3))]
          · conv => whnf
            rintro _ rfl
            conv => whnf
            rintro _ rfl
            conv => whnf
            refine ⟨2 ^ n - (j + 1), by omega, hO, j + 1, by omega, ?_, rfl, rfl⟩
            show [_, _, _, (3, Value.int (nI d)), (4, Value.int (nI d + (-1)))] = [_, _, _, (3, Value.int (B (j + 1))), (4, Value.int (nI (2 ^ n - (j + 1)) - 1))]
            rw [em, take ⟨by simpa using c2, (i32_not_lt _ _).mp c3⟩]
        · conv => whnf
          rintro _ rfl
          conv => whnf
          refine ⟨2 ^ n - (j + 1), by omega, hO, j + 1, by omega, ?_, rfl, rfl⟩
          show [_, _, _, (3, Value.int (B j)), (4, Value.int (nI d + (-1)))] = [_, _, _, (3, Value.int (B (j + 1))), (4, Value.int (nI (2 ^ n - (j + 1)) - 1))]
          rw [em, stay (fun z => c2 (by simpa using z.1))]
    · exact absurd hq List.not_mem_nil
  · conv => whnf
    refine ⟨⟨_, _, _, rfl, rfl, trivial⟩, ?_⟩
    intro r hr
    obtain rfl : r = bI (okO h) := hr
    conv => whnf
    refine ⟨fun h1 => ?_, fun h1 => ?_⟩
    · exact fin _ (if_neg (bI_0 h1)).symm
    · conv => whnf
      refine ⟨⟨px, py, ph, rx, ry, vi, 0, nw, si, pl, tr, bo, pn, ca, sp, co, _, h, n, m, rfl, rfl, vp_of2 (bI_n h1).1 (bI_n h1).2 rfl, hn, hm⟩, ?_⟩
      intro r hr
      replace hr := hr n m rfl hn rfl hm
      have hr : r = orS ((1 : Int32) <<< (nI n &&& 31) - 1) (sb px py ph vi rx ry m h.toNatClampNeg) n := hr
      rw [hs2, hf] at hr
      subst hr
      conv => whnf
      rintro _ rfl
      conv => whnf
      rintro _ rfl
      conv => whnf
      rintro _ rfl
      conv => whnf
      refine ⟨2 ^ n, by omega, bI_n h1, 0, Nat.zero_le _, ?_, rfl, rfl⟩
      show [_, _, (2, _), (3, Value.int ((1 : Int32) <<< (nI n &&& 31) - 1)), (4, Value.int ((1 : Int32) <<< (nI n &&& 31) - 1))] = [_, _, (2, _), (3, Value.int (B 0)), (4, Value.int (nI (2 ^ n) - 1))]
      rw [hs2, ← hB, ← hs1, hs2]
      rfl
theorem rv_X7_manned : rz_Rv yX7_manned.cls ce_X7_manned := fun av w h => by
  obtain ⟨_, _, _, _, _, _, _, _, _, _, _, _, _, _, _, _, _, _, _, rfl, rfl, _⟩ := h
  exact ⟨_, _, _, _, _, _, rfl, rfl, rfl⟩
theorem cn_X7_manned (l : Launch) : rz_Con l yX7_manned cX7_manned 5 (some .int) 2 0 0 ce_X7_manned := rz_con (by decide +kernel) fo_X7 (by
  intro q hq
  rcases List.mem_cons.mp hq with rfl | hq
  · exact rz_callS (cn_X7_isIn l) (by decide +kernel) ⟨Nat.le_of_ble_eq_true rfl, Nat.le_of_ble_eq_true rfl⟩ m_X7_isIn t_X7_isIn n_X7_87
  rcases List.mem_cons.mp hq with rfl | hq
  · exact rz_callS (cn_X7_bits l) (by decide +kernel) ⟨Nat.le_of_ble_eq_true rfl, Nat.le_of_ble_eq_true rfl⟩ m_X7_bits t_X7_bits n_X7_109
  exact absurd hq List.not_mem_nil) (by
  intro q hq
  rcases List.mem_cons.mp hq with rfl | hq
  · exact rz_callV (cn_X7_seenBy l) (by decide +kernel) ⟨Nat.le_of_ble_eq_true rfl, Nat.le_of_ble_eq_true rfl⟩ m_X7_seenBy rfl i_X7_seenBy v_X7_seenBy rv_X7_seenBy n_X7_105
  exact absurd hq List.not_mem_nil) r_X7_manned vc_X7_manned
end
section
/-! Methods that make cells and let them go. -/
theorem rz_no_adr {adr0 adr1 : Nat → Nat} {nk : List Nat} (h : ∀ k, k ∉ nk → adr1 k = adr0 k) {v : Value} (hv : ∀ k ∈ nk, rz_no1 k v = true) : rz_v adr1 v = rz_v adr0 v := by
  cases v with
  | ref a =>
    show Value.ref (adr1 a) = Value.ref (adr0 a)
    rw [h a (fun z => ?_)]
    have h1 : (!Nat.beq a a) = true := hv a z
    rw [show Nat.beq a a = true from Nat.beq_refl a] at h1
    cases h1
  | _ => rfl
theorem rz_noL_adr {adr0 adr1 : Nat → Nat} {nk : List Nat} (h : ∀ k, k ∉ nk → adr1 k = adr0 k) : ∀ {l : List Value}, (∀ k ∈ nk, rz_noL k l = true) → l.map (rz_v adr1) = l.map (rz_v adr0)
  | [], _ => rfl
  | v :: r, hv => by
    have h1 : ∀ k ∈ nk, rz_no1 k v = true := fun k hk => ((Bool.and_eq_true _ _).mp (show (rz_no1 k v && rz_noL k r) = true from hv k hk)).1
    have h2 : ∀ k ∈ nk, rz_noL k r = true := fun k hk => ((Bool.and_eq_true _ _).mp (show (rz_no1 k v && rz_noL k r) = true from hv k hk)).2
    show rz_v adr1 v :: r.map _ = rz_v adr0 v :: r.map _
    rw [rz_no_adr h h1, rz_noL_adr h h2]
theorem rz_noW_adr {cI cJ : ClassId} {adr0 adr1 : Nat → Nat} {nk : List Nat} (h : ∀ k, k ∉ nk → adr1 k = adr0 k) : ∀ {w : rz_W}, (∀ k ∈ nk, rz_noW k w = true) → rz_c cI cJ adr1 w = rz_c cI cJ adr0 w
  | [], _ => rfl
  | (i, .inl (ci, fs)) :: r, hw => by
    have hx : ∀ k ∈ nk, Nat.beq i k = false ∧ rz_noL k fs = true ∧ rz_noW k r = true := fun k hk => by
      have h1 := (Bool.and_eq_true _ _).mp (show (!Nat.beq i k && (rz_noL k fs && rz_noW k r)) = true from hw k hk)
      have h2 := (Bool.and_eq_true _ _).mp h1.2
      refine ⟨?_, h2.1, h2.2⟩
      have := h1.1; revert this; cases Nat.beq i k <;> simp
    have hi : adr1 i = adr0 i := h i (fun z => rz_nbeq (hx i z).1 rfl)
    show (adr1 i, rz_ei ci fs adr1) :: rz_c cI cJ adr1 r = (adr0 i, rz_ei ci fs adr0) :: rz_c cI cJ adr0 r
    rw [hi, rz_noW_adr h (fun k hk => (hx k hk).2.2)]
    unfold rz_ei
    rw [rz_noL_adr h (fun k hk => (hx k hk).2.1)]
  | (i, .inr x) :: r, hw => by
    have hx : ∀ k ∈ nk, Nat.beq i k = false ∧ rz_noW k r = true := fun k hk => by
      have h1 := (Bool.and_eq_true _ _).mp (show (!Nat.beq i k && rz_noW k r) = true from hw k hk)
      refine ⟨?_, h1.2⟩
      have := h1.1; revert this; cases Nat.beq i k <;> simp
    have hi : adr1 i = adr0 i := h i (fun z => rz_nbeq (hx i z).1 rfl)
    show (adr1 i, rz_e cI cJ adr1 (.inr x)) :: rz_c cI cJ adr1 r = (adr0 i, rz_e cI cJ adr0 (.inr x)) :: rz_c cI cJ adr0 r
    rw [hi, rz_noW_adr h (fun k hk => (hx k hk).2)]
    cases x <;> rfl
def rz_endA (nk : List Nat) (ce : rz_K) (av : List Value) (w : rz_W) : Option Value → rz_W → Prop := fun o w1 => (∃ j, w1.map Prod.fst = ce.2.1 ++ nk.take j) ∧ ∃ w', rz_sub w1 ce.2.1 = some w' ∧ (nk.all (fun k => rz_noW k w') = true) ∧ rz_kind ce.2.2.1 o ∧ (ce.2.2.2.1 = true → w' = w) ∧ ce.2.2.2.2.2 av w o w'
def rz_VCA (nk : List Nat) (RC RS : Nat) (cod : List (Nat × rz_I)) (fld : List (Nat × Nat × Nat × Bool)) (cal cav : List (Nat × rz_K)) (sw : List (Int32 × Nat)) (bz : Bool) (nL : Nat) (ce : rz_K) : Prop := ∀ (av : List Value) (w : rz_W), av.length = ce.1 → w.map Prod.fst = ce.2.1 → ce.2.2.2.2.1 av w →
  rz_words av ≤ nL ∧ ∃ (J : List (Nat × rz_J)) (N n0 : Nat), (∀ q ∈ J, ∀ k lv w', q.2.2 k lv w' → rz_run cod fld cal cav sw bz RC RS J (rz_endA nk ce av w) k N q.1 lv [] w' RC RS) ∧ rz_run cod fld cal cav sw bz RC RS J (rz_endA nk ce av w) n0 N 0 (rz_args 0 av) [] w 0 0
theorem rz_conA {l : Launch} {y : MethodName} {cc : ByteArray} {nL d RC RS : Nat} {nk : List Nat} {ret : Option FieldType} {bz : Bool} {cod : List (Nat × rz_I)} {fld : List (Nat × Nat × Nat × Bool)} {cal cav : List (Nat × rz_K)} {sw : List (Int32 × Nat)} {ce : rz_K}
    (hy : plainFor y = true) (hfld : rz_Fld y.cls fld) (hcal : ∀ q ∈ cal, rz_CallOK l (rz_room d RC RS) y.cls cc (.invokestatic q.1) q.2) (hcav : ∀ q ∈ cav, rz_CallOK l (rz_room d RC RS) y.cls cc (.invokevirtual q.1) q.2)
    (hrows : ∀ q ∈ cod, rz_row y.cls cc nL ret bz sw q.1 q.2) (hvc : rz_VCA nk RC RS cod fld cal cav sw bz nL ce) : rz_Con l y cc nL ret d RC RS ce := by
  intro D cI cJ adr sz av w hav hkeys hpre
  refine rz_ofW (cc := cc) (maxL := nL) (ret := ret) hy rfl ?_
  intro p e s m args below meth c s₁ B hml hv
  obtain ⟨hargs, hsz, hP, hK, hD0, hnw⟩ := hv
  subst hargs
  have hts0 := atoms_spec (ws := .code y cc nL ret :: bw) B.pre
  have hts : ∀ w ∈ bw, w.before (av.map (rz_v adr)).toArray s = true := fun w hw => hts0 w (List.mem_cons_of_mem _ hw)
  have hown : s.vm.findClass y.cls = some m.cls := findClass_of_methodNamed B.named
  subst hsz
  have hD := hD0.self (sz := s.heap.size)
  obtain ⟨hwd, J, N, n0, hJ, h0⟩ := hvc av w hav hkeys hpre
  have hl := lv_entry (av.map (rz_v adr)) (n := nL) (by rw [rz_sl_len]; exact hwd)
  rw [lg_entry_eq]
  rw [rz_args_l] at hl
  have hA : ∀ q : Nat, s.heap.size ≤ q → va_A (rz_c cI cJ adr w) s.heap.size q := fun q h => Or.inr h
  have hR : RC ≤ (rz_room d RC RS).cells ∧ RS ≤ (rz_room d RC RS).slots := ⟨Nat.le_refl _, Nat.le_refl _⟩
  have hfin : ∀ (adr1 : Nat → Nat) (lv : rz_L) (w1 : rz_W) (cs sl : Nat) (H : Heap) (locs : List Loc) (ls : Array Slot) (o : Option Value), rz_Rel D cI cJ (va_A (rz_c cI cJ adr w) s.heap.size) s nL ce.2.1 RC RS adr adr1 lv w1 cs sl H locs ls → rz_endA nk ce av w o w1 → (∀ q ∈ locs, va_A (rz_c cI cJ adr w) s.heap.size q.base) ∧ ∀ t : State, t.heap = H → s.WarmedH t.vm → rz_Qc ce D cI cJ adr av w (va_A (rz_c cI cJ adr w) s.heap.size) (av.map (rz_v adr)).toArray s (.returned o) t := by
    intro adr1 lv w1 cs sl H locs ls o hrel hq
    obtain ⟨g1, g2, g3, g4, g5, ⟨ex, g6, g7, g10⟩, g8, g9⟩ := hrel
    obtain ⟨⟨j, q0⟩, w', q1, q2, q3, q4, q5⟩ := hq
    obtain ⟨k1, k2⟩ := rz_sub_keys q1
    refine ⟨g3.2.2, fun t ht hW => ⟨⟨o, w', rfl, q3, k1, q4, q5, ?_⟩, g3.F ht⟩⟩
    rw [ht]
    have hex : ex = nk.take j := by
      rw [g6] at q0
      exact List.append_cancel_left q0
    have hadr : rz_c cI cJ adr1 w' = rz_c cI cJ adr w' := rz_noW_adr (nk := nk) (fun k hk => g10 k (fun z => hk (List.mem_of_mem_take (by rw [← hex]; exact z)))) (fun k hk => List.all_eq_true.mp q2 k hk)
    rw [← hadr]
    exact rz_P_iff.mpr (fun q hq => rz_P_iff.mp g1 q (k2 q hq))
  have hG := rz_run_sound (own := y.cls) (ret := ret) (adr0 := adr) (ks := ce.2.1) (R := rz_room d RC RS) (e := e) (below := below) (free := va_A (rz_c cI cJ adr w) s.heap.size) B.exec B.bytes B.notSynchronized hml hown hts hnw hK hA hR B.returns (hfld s _ hts hnw) (fun ix ce9 h9 => hcal (ix, ce9) (rz_get_mem h9)) (fun ix ce9 h9 => hcav (ix, ce9) (rz_get_mem h9)) hfin (fun _ _ _ h => h) hrows (n0 := n0)
    (fun k _ pc j hj lv w9 hjk => rz_loops (own := y.cls) (ret := ret) (adr0 := adr) (ks := ce.2.1) (R := rz_room d RC RS) (e := e) (below := below) B.exec B.bytes B.notSynchronized hml hown hts hnw hK hA hR B.returns (hfld s _ hts hnw) (fun ix ce9 h9 => hcal (ix, ce9) (rz_get_mem h9)) (fun ix ce9 h9 => hcav (ix, ce9) (rz_get_mem h9)) hfin (fun _ _ _ h => h) hrows hJ k pc j hj lv w9 hjk) N 0 (rz_args 0 av) [] w 0 0 h0
  exact hG adr s.heap [] _ ⟨hP, rz_D.of_va hD, va_S.rf, hl, fun _ _ => rfl, ⟨[], by rw [hkeys, List.append_nil], Nat.zero_le _, fun _ _ => rfl⟩, Nat.zero_le _, Nat.zero_le _⟩
end
section
/-! Boats of the class. -/
def ce_X0_isIn : rz_K := (2, kBo, 0, true, fun av w => ∃ (pb pl pe pt lp im : Nat → Int32) (pn sz b : Int32), av = [.ref 37, .int b] ∧ w = wBo pb pl pe pt lp im pn sz ∧ vp_in b 30, fun av w o _ => rR o = bI (¬ rI w 43 (rA av 1).toNatClampNeg = -1))
def cl_X0_isIn : List (Nat × rz_K) := []
def cv_X0_isIn : List (Nat × rz_K) := []
theorem vc_X0_isIn : rz_VC k_X0_isIn fl_X0 cl_X0_isIn cv_X0_isIn s_X0_isIn true 2 ce_X0_isIn := by
  intro av w hlen hk hpre
  obtain ⟨pb, pl, pe, pt, lp, im, pn, sz, b, rfl, rfl, hb⟩ := hpre
  refine ⟨Nat.le_of_ble_eq_true rfl, [], 30, 0, fun q h => absurd h List.not_mem_nil, ?_⟩
  conv => whnf
  refine ⟨hb, ?_⟩
  conv => whnf
  refine ⟨fun h => ?_, fun h => ?_⟩
  · exact ⟨Or.inl rfl, ⟨_, rfl⟩, fun _ => rfl, bI_f (fun z => z h)⟩
  · exact ⟨Or.inr rfl, ⟨_, rfl⟩, fun _ => rfl, bI_t h⟩
theorem rv_X0_isIn : rz_Rv yX0_isIn.cls ce_X0_isIn := fun av w h => by
  obtain ⟨_, _, _, _, _, _, _, _, _, rfl, rfl, _⟩ := h
  exact ⟨_, _, _, _, _, _, rfl, rfl, rfl⟩
theorem cn_X0_isIn (l : Launch) : rz_Con l yX0_isIn cX0_isIn 2 (some .boolean) 0 0 0 ce_X0_isIn := rz_con (by decide +kernel) fo_X0 (fun _ h => absurd h List.not_mem_nil) (fun _ h => absurd h List.not_mem_nil) r_X0_isIn vc_X0_isIn
def ce_X0_hasBoat : rz_K := (2, kBo, 0, true, fun av w => ∃ (pb pl pe pt lp im : Nat → Int32) (pn sz b : Int32), av = [.ref 37, .int b] ∧ w = wBo pb pl pe pt lp im pn sz ∧ True, fun av w o _ => rR o = bI (0 ≤ rA av 1 ∧ rA av 1 ≤ rF w 37 7 - 1))
def cl_X0_hasBoat : List (Nat × rz_K) := [(37, ce_X6_isWithin)]
def cv_X0_hasBoat : List (Nat × rz_K) := []
theorem vc_X0_hasBoat : rz_VC k_X0_hasBoat fl_X0 cl_X0_hasBoat cv_X0_hasBoat s_X0_hasBoat true 2 ce_X0_hasBoat := by
  intro av w hlen hk hpre
  obtain ⟨pb, pl, pe, pt, lp, im, pn, sz, b, rfl, rfl, -⟩ := hpre
  refine ⟨Nat.le_of_ble_eq_true rfl, [], 30, 0, fun q h => absurd h List.not_mem_nil, ?_⟩
  conv => whnf
  refine ⟨⟨_, _, _, rfl, rfl, trivial⟩, ?_⟩
  intro r hr
  conv => whnf
  refine ⟨?_, ⟨_, rfl⟩, fun _ => rfl, hr⟩
  rw [show r = _ from hr]
  exact bI_01 _
theorem rv_X0_hasBoat : rz_Rv yX0_hasBoat.cls ce_X0_hasBoat := fun av w h => by
  obtain ⟨_, _, _, _, _, _, _, _, _, rfl, rfl, _⟩ := h
  exact ⟨_, _, _, _, _, _, rfl, rfl, rfl⟩
theorem cn_X0_hasBoat (l : Launch) : rz_Con l yX0_hasBoat cX0_hasBoat 2 (some .boolean) 1 0 0 ce_X0_hasBoat := rz_con (by decide +kernel) fo_X0 (by
  intro q hq
  rcases List.mem_cons.mp hq with rfl | hq
  · exact rz_callSN (cn_X6_isWithin l) (by decide +kernel) ⟨Nat.le_of_ble_eq_true rfl, Nat.le_of_ble_eq_true rfl⟩ m_X6_isWithin t_X6_isWithin n_X0_37
  exact absurd hq List.not_mem_nil) (fun _ h => absurd h List.not_mem_nil) r_X0_hasBoat vc_X0_hasBoat
def ce_X0_firstOverdue : rz_K := (2, kBo, 0, true, fun av w => ∃ (pb pl pe pt lp im : Nat → Int32) (pn sz b : Int32), av = [.ref 37, .int b] ∧ w = wBo pb pl pe pt lp im pn sz ∧ vp_in b 30 ∧ vp_in (lp b.toNatClampNeg) 100, fun av w o _ => rR o = rI w 40 (rI w 42 (rA av 1).toNatClampNeg).toNatClampNeg + 1)
def cl_X0_firstOverdue : List (Nat × rz_K) := []
def cv_X0_firstOverdue : List (Nat × rz_K) := []
theorem vc_X0_firstOverdue : rz_VC k_X0_firstOverdue fl_X0 cl_X0_firstOverdue cv_X0_firstOverdue s_X0_firstOverdue false 2 ce_X0_firstOverdue := by
  intro av w hlen hk hpre
  obtain ⟨pb, pl, pe, pt, lp, im, pn, sz, b, rfl, rfl, hb, hl⟩ := hpre
  refine ⟨Nat.le_of_ble_eq_true rfl, [], 30, 0, fun q h => absurd h List.not_mem_nil, ?_⟩
  conv => whnf
  refine ⟨hb, ?_⟩
  conv => whnf
  refine ⟨hl, ?_⟩
  conv => whnf
  exact ⟨⟨_, rfl⟩, fun _ => rfl, rfl⟩
theorem rv_X0_firstOverdue : rz_Rv yX0_firstOverdue.cls ce_X0_firstOverdue := fun av w h => by
  obtain ⟨_, _, _, _, _, _, _, _, _, rfl, rfl, _⟩ := h
  exact ⟨_, _, _, _, _, _, rfl, rfl, rfl⟩
theorem cn_X0_firstOverdue (l : Launch) : rz_Con l yX0_firstOverdue cX0_firstOverdue 2 (some .int) 0 0 0 ce_X0_firstOverdue := rz_con (by decide +kernel) fo_X0 (fun _ h => absurd h List.not_mem_nil) (fun _ h => absurd h List.not_mem_nil) r_X0_firstOverdue vc_X0_firstOverdue
abbrev okT (b : Int32) (n k : Nat) (im : Nat → Int32) : Prop := k < 100 ∧ ((okS b n ∧ im b.toNatClampNeg = -1) ∨ (¬ okS b n ∧ b = nI n ∧ n < 30))
def ce_X0_takesPlan : rz_K := (2, kBo, 0, true, fun av w => ∃ (pb pl pe pt lp im : Nat → Int32) (b : Int32) (k n : Nat), av = [.ref 37, .int b] ∧ w = wBo pb pl pe pt lp im (nI k) (nI n) ∧ k ≤ 100 ∧ n ≤ 30, fun av w o _ => ∀ k n : Nat, rF w 37 6 = nI k → k ≤ 100 → rF w 37 7 = nI n → n ≤ 30 → rR o = bI (okT (rA av 1) n k (rI w 43)))
def cl_X0_takesPlan : List (Nat × rz_K) := []
def cv_X0_takesPlan : List (Nat × rz_K) := [(41, ce_X0_hasBoat), (45, ce_X0_isIn)]
theorem vc_X0_takesPlan : rz_VC k_X0_takesPlan fl_X0 cl_X0_takesPlan cv_X0_takesPlan s_X0_takesPlan true 2 ce_X0_takesPlan := by
  intro av w hlen hk hpre
  obtain ⟨pb, pl, pe, pt, lp, im, b, k, n, rfl, rfl, hk2, hn⟩ := hpre
  refine ⟨Nat.le_of_ble_eq_true rfl, [], 60, 0, fun q h => absurd h List.not_mem_nil, ?_⟩
  have fin : ∀ v : Int32, v = bI (okT b n k im) → (v = 0 ∨ v = 1) ∧ rz_end ce_X0_takesPlan [.ref 37, .int b] (wBo pb pl pe pt lp im (nI k) (nI n)) (some (.int v)) (wBo pb pl pe pt lp im (nI k) (nI n)) := by
    intro v hv
    refine ⟨by rw [hv]; exact bI_01 _, ⟨_, rfl⟩, fun _ => rfl, ?_⟩
    intro k' n' e1 h1 e2 h2
    have e1 : k = k' := nI_inj (by omega) (by omega) e1
    have e2 : n = n' := nI_inj (by omega) (by omega) e2
    subst e1 e2
    exact hv
  conv => whnf
  refine ⟨fun h => ?_, fun h => ?_⟩
  · have h : nI k < nI 100 := h
    have h := (nI_ltI (by omega) (by omega)).mp h
    conv => whnf
    refine ⟨⟨pb, pl, pe, pt, lp, im, nI k, nI n, b, rfl, rfl, trivial⟩, ?_⟩
    intro r hr
    obtain rfl : r = bI (okS b n) := hr
    conv => whnf
    refine ⟨fun h1 => ?_, fun h1 => ?_⟩
    · conv => whnf
      refine ⟨fun h2 => ?_, fun h2 => ?_⟩
      · conv => whnf
        refine ⟨fun h3 => ?_, fun h3 => ?_⟩
        · have h3 : nI 30 ≤ nI n := h3
          have h3 := (nI_leI (by omega) (by omega)).mp h3
          refine fin _ (bI_f (fun z => ?_))
          rcases z.2 with z | z
          · exact bI_0 h1 z.1
          · omega
        · have h3 : ¬ nI 30 ≤ nI n := h3
          refine fin _ (bI_t ⟨h, Or.inr ⟨bI_0 h1, h2, ?_⟩⟩)
          rcases Nat.lt_or_ge n 30 with q | q
          · exact q
          · exact absurd (nI_le q (by omega)) h3
      · refine fin _ (bI_f (fun z => ?_))
        rcases z.2 with z | z
        · exact bI_0 h1 z.1
        · exact h2 z.2.1
    · conv => whnf
      refine ⟨⟨pb, pl, pe, pt, lp, im, nI k, nI n, b, rfl, rfl, okS_vp (bI_n h1) hn (by omega)⟩, ?_⟩
      intro r hr
      obtain rfl : r = bI (¬ im b.toNatClampNeg = -1) := hr
      conv => whnf
      refine ⟨fun h2 => ?_, fun h2 => ?_⟩
      · exact fin _ (bI_t ⟨h, Or.inl ⟨bI_n h1, Decidable.not_not.mp (bI_0 h2)⟩⟩)
      · refine fin _ (bI_f (fun z => ?_))
        rcases z.2 with z | z
        · exact bI_n h2 z.2
        · exact z.1 (bI_n h1)
  · have h : ¬ nI k < nI 100 := h
    exact fin _ (bI_f (fun z => h (nI_lt z.1 (by omega))))
theorem rv_X0_takesPlan : rz_Rv yX0_takesPlan.cls ce_X0_takesPlan := fun av w h => by
  obtain ⟨_, _, _, _, _, _, _, _, _, rfl, rfl, _⟩ := h
  exact ⟨_, _, _, _, _, _, rfl, rfl, rfl⟩
theorem cn_X0_takesPlan (l : Launch) : rz_Con l yX0_takesPlan cX0_takesPlan 2 (some .boolean) 2 0 0 ce_X0_takesPlan := rz_con (by decide +kernel) fo_X0 (fun _ h => absurd h List.not_mem_nil) (by
  intro q hq
  rcases List.mem_cons.mp hq with rfl | hq
  · exact rz_callV (cn_X0_hasBoat l) (by decide +kernel) ⟨Nat.le_of_ble_eq_true rfl, Nat.le_of_ble_eq_true rfl⟩ m_X0_hasBoat rfl i_X0_hasBoat v_X0_hasBoat rv_X0_hasBoat n_X0_41
  rcases List.mem_cons.mp hq with rfl | hq
  · exact rz_callV (cn_X0_isIn l) (by decide +kernel) ⟨Nat.le_of_ble_eq_true rfl, Nat.le_of_ble_eq_true rfl⟩ m_X0_isIn rfl i_X0_isIn v_X0_isIn rv_X0_isIn n_X0_45
  exact absurd hq List.not_mem_nil) r_X0_takesPlan vc_X0_takesPlan
def ce_X0_addPlan : rz_K := (5, kBo, 2, false, fun av w => ∃ (pb pl pe pt lp im : Nat → Int32) (le en to : Int32) (b k n : Nat), av = [.ref 37, .int (nI b), .int le, .int en, .int to] ∧ w = wBo pb pl pe pt lp im (nI k) (nI n) ∧ k < 100 ∧ b < 30 ∧ b ≤ n ∧ n ≤ 30, fun av w _ w' => ∀ b k n : Nat, rA av 1 = nI b → rF w 37 6 = nI k → rF w 37 7 = nI n → k < 100 → b < 30 → n ≤ 30 → w' = wBo (upd (rI w 38) k (nI b)) (upd (rI w 39) k (rA av 2)) (upd (rI w 40) k (rA av 3)) (upd (rI w 41) k (rA av 4)) (upd (rI w 42) b (nI k)) (if b = n then upd (rI w 43) b (-1) else rI w 43) (nI (k + 1)) (nI (if b = n then n + 1 else n)))
def cl_X0_addPlan : List (Nat × rz_K) := []
def cv_X0_addPlan : List (Nat × rz_K) := []
theorem vc_X0_addPlan : rz_VC k_X0_addPlan fl_X0 cl_X0_addPlan cv_X0_addPlan s_X0_addPlan false 5 ce_X0_addPlan := by
  intro av w hlen hk hpre
  obtain ⟨pb, pl, pe, pt, lp, im, le, en, to, b, k, n, rfl, rfl, hk2, hb, hbn, hn⟩ := hpre
  refine ⟨Nat.le_of_ble_eq_true rfl, [], 90, 0, fun q h => absurd h List.not_mem_nil, ?_⟩
  have hvb : vp_in (nI b) 30 := vp_in_nI hb (by omega)
  have hvk : vp_in (nI k) 100 := vp_in_nI hk2 (by omega)
  have fin : ∀ w', w' = wBo (upd pb k (nI b)) (upd pl k le) (upd pe k en) (upd pt k to) (upd lp b (nI k)) (if b = n then upd im b (-1) else im) (nI (k + 1)) (nI (if b = n then n + 1 else n)) → rz_end ce_X0_addPlan [.ref 37, .int (nI b), .int le, .int en, .int to] (wBo pb pl pe pt lp im (nI k) (nI n)) none w' := by
    intro w' hw
    refine ⟨rfl, fun z => (by cases z), ?_⟩
    intro b' k' n' e1 e2 e3 h1 h2 h3
    have e1 : b = b' := nI_inj (by omega) (by omega) e1
    have e2 : k = k' := nI_inj (by omega) (by omega) e2
    have e3 : n = n' := nI_inj (by omega) (by omega) e3
    subst e1 e2 e3
    exact hw
  conv => whnf
  refine ⟨fun h => ?_, fun h => ?_⟩
  · have h := nI_inj (by omega) (by omega) h
    subst h
    conv => whnf
    refine ⟨hvb, ?_⟩
    conv => whnf
    refine ⟨hvk, ?_⟩
    conv => whnf
    refine ⟨hvk, ?_⟩
    conv => whnf
    refine ⟨hvk, ?_⟩
    conv => whnf
    refine ⟨hvk, ?_⟩
    conv => whnf
    refine ⟨hvb, ?_⟩
    conv => whnf
    refine fin _ ?_
    show wBo (upd pb (nI k).toNatClampNeg (nI b)) (upd pl (nI k).toNatClampNeg le) (upd pe (nI k).toNatClampNeg en) (upd pt (nI k).toNatClampNeg to) (upd lp (nI b).toNatClampNeg (nI k)) (upd im (nI b).toNatClampNeg (-1)) (nI k + 1) (nI b + 1) = _
    rw [nI_1, nI_1, nI_clamp (by omega), nI_clamp (by omega), if_pos rfl, if_pos rfl]
  · have h : ¬ b = n := fun z => h (congrArg nI z)
    conv => whnf
    refine ⟨hvk, ?_⟩
    conv => whnf
    refine ⟨hvk, ?_⟩
    conv => whnf
    refine ⟨hvk, ?_⟩
    conv => whnf
    refine ⟨hvk, ?_⟩
    conv => whnf
    refine ⟨hvb, ?_⟩
    conv => whnf
    refine fin _ ?_
    show wBo (upd pb (nI k).toNatClampNeg (nI b)) (upd pl (nI k).toNatClampNeg le) (upd pe (nI k).toNatClampNeg en) (upd pt (nI k).toNatClampNeg to) (upd lp (nI b).toNatClampNeg (nI k)) im (nI k + 1) (nI n) = _
    rw [nI_1, nI_clamp (by omega), nI_clamp (by omega), if_neg h, if_neg h]
theorem rv_X0_addPlan : rz_Rv yX0_addPlan.cls ce_X0_addPlan := fun av w h => by
  obtain ⟨_, _, _, _, _, _, _, _, _, _, _, _, rfl, rfl, _⟩ := h
  exact ⟨_, _, _, _, _, _, rfl, rfl, rfl⟩
theorem cn_X0_addPlan (l : Launch) : rz_Con l yX0_addPlan cX0_addPlan 5 none 0 0 0 ce_X0_addPlan := rz_con (by decide +kernel) fo_X0 (fun _ h => absurd h List.not_mem_nil) (fun _ h => absurd h List.not_mem_nil) r_X0_addPlan vc_X0_addPlan
/-- the last place below n with p, or NONE -/
def lastK (p : Nat → Bool) : Nat → Int32
  | 0 => -1
  | n + 1 => if p n then nI n else lastK p n
theorem lastK_in (p : Nat → Bool) : ∀ n, n < 2 ^ 31 → lastK p n = -1 ∨ ∃ j, j < n ∧ lastK p n = nI j ∧ p j = true
  | 0, _ => Or.inl rfl
  | n + 1, h => by
    unfold lastK
    cases hp : p n with
    | true => exact Or.inr ⟨n, by omega, rfl, hp⟩
    | false =>
      rcases lastK_in p n (by omega) with z | ⟨j, z1, z2, z3⟩
      · exact Or.inl z
      · exact Or.inr ⟨j, by omega, z2, z3⟩
theorem nI_ne_m1 {j : Nat} (h : j < 2 ^ 31) : ¬ nI j = -1 := fun z => by
  have h1 := nI_pos h
  rw [z] at h1
  exact h1 (by decide)
abbrev pkP (pb pt : Nat → Int32) (b q : Int32) : Nat → Bool := fun i => decide (pb i = b ∧ pt i ≤ q)
def ce_X0_planKnown : rz_K := (3, kBo, 0, true, fun av w => ∃ (pb pl pe pt lp im : Nat → Int32) (sz b q : Int32) (k : Nat), av = [.ref 37, .int b, .int q] ∧ w = wBo pb pl pe pt lp im (nI k) sz ∧ k ≤ 100, fun av w o _ => ∀ k : Nat, rF w 37 6 = nI k → k ≤ 100 → rR o = lastK (pkP (rI w 38) (rI w 41) (rA av 1) (rA av 2)) k)
def cl_X0_planKnown : List (Nat × rz_K) := []
def cv_X0_planKnown : List (Nat × rz_K) := []
theorem vc_X0_planKnown : rz_VC k_X0_planKnown fl_X0 cl_X0_planKnown cv_X0_planKnown s_X0_planKnown false 4 ce_X0_planKnown := by
  intro av w hlen hk hpre
  obtain ⟨pb, pl, pe, pt, lp, im, sz, b, q, k, rfl, rfl, hk2⟩ := hpre
  have fin : ∀ v : Int32, v = lastK (pkP pb pt b q) k → rz_end ce_X0_planKnown [.ref 37, .int b, .int q] (wBo pb pl pe pt lp im (nI k) sz) (some (.int v)) (wBo pb pl pe pt lp im (nI k) sz) := by
    intro v hv
    refine ⟨⟨_, rfl⟩, fun _ => rfl, ?_⟩
    intro k' e1 h1
    have e1 : k = k' := nI_inj (by omega) (by omega) e1
    subst e1
    exact hv
  refine ⟨Nat.le_of_ble_eq_true rfl, [(7, [0, 1, 2, 3], fun z lv w' => ∃ i : Nat, i ≤ k ∧ lastK (pkP pb pt b q) k = lastK (pkP pb pt b q) i ∧ lv = [(0, .ref 37), (1, .int b), (2, .int q), (3, .int (nI i - 1))] ∧ w' = wBo pb pl pe pt lp im (nI k) sz ∧ i = z)], 60, k + 1, ?_, ?_⟩
  · intro y hq z lv w' hj
    rcases List.mem_cons.mp hq with rfl | hq
    · obtain ⟨i, hi, hla, rfl, rfl, rfl⟩ := hj
      conv => whnf
      refine ⟨fun c => ?_, fun c => ?_⟩
      · have e : i = 0 := by
          rcases Nat.eq_zero_or_pos i with y | y
          · exact y
          · obtain ⟨d, rfl⟩ : ∃ d, i = d + 1 := ⟨i - 1, by omega⟩
            rw [nI_pred] at c
            exact absurd c (nI_pos (by omega))
        subst e
        exact fin _ hla.symm
      · obtain ⟨d, rfl⟩ : ∃ d, i = d + 1 := by
          rcases Nat.eq_zero_or_pos i with y | y
          · subst y; exact absurd (by decide) c
          · exact ⟨i - 1, by omega⟩
        rw [nI_pred] at *
        have hv : vp_in (nI d) 100 := vp_in_nI (by omega) (by omega)
        have hcl : (nI d).toNatClampNeg = d := nI_clamp (by omega)
        have hs : lastK (pkP pb pt b q) (d + 1) = if pkP pb pt b q d then nI d else lastK (pkP pb pt b q) d := rfl
        conv => whnf
        refine ⟨hv, ?_⟩
        conv => whnf
        refine ⟨fun c2 => ?_, fun c2 => ?_⟩
        · have c2 : pb (nI d).toNatClampNeg = b := c2
          rw [hcl] at c2
          conv => whnf
          refine ⟨hv, ?_⟩
          conv => whnf
          refine ⟨fun c3 => ?_, fun c3 => ?_⟩
          · have c3 : q < pt (nI d).toNatClampNeg := c3
            rw [hcl] at c3
            conv => whnf
            rintro _ rfl
            conv => whnf
            refine ⟨d, by omega, d, by omega, ?_, ?_, rfl, rfl⟩
            · rw [hla, hs, if_neg (by simp only [decide_eq_true_eq]; exact fun y => absurd y.2 ((i32_not_le _ _).mpr c3))]
            · show [_, _, _, (3, Value.int (nI d + (-1)))] = _
              rw [Int32.sub_eq_add_neg]
          · have c3 : ¬ q < pt (nI d).toNatClampNeg := c3
            rw [hcl] at c3
            refine fin _ ?_
            rw [hla, hs, if_pos (by simp only [decide_eq_true_eq]; exact ⟨c2, (i32_not_lt _ _).mp c3⟩)]
        · have c2 : ¬ pb (nI d).toNatClampNeg = b := c2
          rw [hcl] at c2
          conv => whnf
          rintro _ rfl
          conv => whnf
          refine ⟨d, by omega, d, by omega, ?_, ?_, rfl, rfl⟩
          · rw [hla, hs, if_neg (by simp only [decide_eq_true_eq]; exact fun y => c2 y.1)]
          · show [_, _, _, (3, Value.int (nI d + (-1)))] = _
            rw [Int32.sub_eq_add_neg]
    · exact absurd hq List.not_mem_nil
  · conv => whnf
    rintro _ rfl
    conv => whnf
    refine ⟨k, by omega, k, by omega, rfl, rfl, rfl, rfl⟩
theorem rv_X0_planKnown : rz_Rv yX0_planKnown.cls ce_X0_planKnown := fun av w h => by
  obtain ⟨_, _, _, _, _, _, _, _, _, _, rfl, rfl, _⟩ := h
  exact ⟨_, _, _, _, _, _, rfl, rfl, rfl⟩
theorem cn_X0_planKnown (l : Launch) : rz_Con l yX0_planKnown cX0_planKnown 4 (some .int) 0 0 0 ce_X0_planKnown := rz_con (by decide +kernel) fo_X0 (fun _ h => absurd h List.not_mem_nil) (fun _ h => absurd h List.not_mem_nil) r_X0_planKnown vc_X0_planKnown
/-- a boat's state by its plan's place, its minute of coming in, the plan's leaving and end -/
def stF (j im m q : Int32) (pl pe : Nat → Int32) : Int32 := if j = -1 then 0 else if ¬ im = -1 ∧ im ≤ m ∧ im ≤ q then 4 else if m < pl j.toNatClampNeg then 1 else if m ≤ pe j.toNatClampNeg then 2 else 3
def ce_X0_stateOf : rz_K := (4, kBo, 0, true, fun av w => ∃ (pb pl pe pt lp im : Nat → Int32) (sz b m q : Int32) (k : Nat), av = [.ref 37, .int b, .int m, .int q] ∧ w = wBo pb pl pe pt lp im (nI k) sz ∧ k ≤ 100 ∧ vp_in b 30, fun av w o _ => ∀ k : Nat, rF w 37 6 = nI k → k ≤ 100 → rR o = stF (lastK (pkP (rI w 38) (rI w 41) (rA av 1) (rA av 3)) k) (rI w 43 (rA av 1).toNatClampNeg) (rA av 2) (rA av 3) (rI w 39) (rI w 40))
def cl_X0_stateOf : List (Nat × rz_K) := []
def cv_X0_stateOf : List (Nat × rz_K) := [(48, ce_X0_planKnown)]
theorem vc_X0_stateOf : rz_VC k_X0_stateOf fl_X0 cl_X0_stateOf cv_X0_stateOf s_X0_stateOf false 6 ce_X0_stateOf := by
  intro av w hlen hk hpre
  obtain ⟨pb, pl, pe, pt, lp, im, sz, b, m, q, k, rfl, rfl, hk2, hb⟩ := hpre
  refine ⟨Nat.le_of_ble_eq_true rfl, [], 90, 0, fun q h => absurd h List.not_mem_nil, ?_⟩
  generalize hJ : lastK (pkP pb pt b q) k = j
  have hjv : ¬ j = -1 → vp_in j 100 := fun z => by
    rcases lastK_in (pkP pb pt b q) k (by omega) with y | ⟨i, y1, y2, y3⟩
    · exact absurd (hJ.symm.trans y) z
    · rw [hJ] at y2
      rw [y2]
      exact vp_in_nI (by omega) (by omega)
  have fin : ∀ v : Int32, v = stF j (im b.toNatClampNeg) m q pl pe → rz_end ce_X0_stateOf [.ref 37, .int b, .int m, .int q] (wBo pb pl pe pt lp im (nI k) sz) (some (.int v)) (wBo pb pl pe pt lp im (nI k) sz) := by
    intro v hv
    refine ⟨⟨_, rfl⟩, fun _ => rfl, ?_⟩
    intro k' e1 h1
    have e1 : k = k' := nI_inj (by omega) (by omega) e1
    subst e1
    rw [hv, ← hJ]
    rfl
  conv => whnf
  refine ⟨⟨pb, pl, pe, pt, lp, im, sz, b, q, k, rfl, rfl, hk2⟩, ?_⟩
  intro r hr
  have hr : r = lastK (pkP pb pt b q) k := hr k rfl hk2
  rw [hJ] at hr
  subst hr
  conv => whnf
  intro v_ ev_
  have ev_ := ev_.symm
  subst ev_
  conv => whnf
  refine ⟨fun h => ?_, fun h => ?_⟩
  · refine fin _ ?_
    unfold stF
    rw [if_pos h]
  · conv => whnf
    refine ⟨hb, ?_⟩
    conv => whnf
    rintro _ rfl
    have go : ¬ (¬ im b.toNatClampNeg = -1 ∧ im b.toNatClampNeg ≤ m ∧ im b.toNatClampNeg ≤ q) → stF r (im b.toNatClampNeg) m q pl pe = if m < pl r.toNatClampNeg then 1 else if m ≤ pe r.toNatClampNeg then 2 else 3 := fun z => by
      unfold stF
      rw [if_neg h, if_neg z]
    have t1 : ∀ (z : ¬ (¬ im b.toNatClampNeg = -1 ∧ im b.toNatClampNeg ≤ m ∧ im b.toNatClampNeg ≤ q)) (y : ¬ pl r.toNatClampNeg ≤ m), (1 : Int32) = stF r (im b.toNatClampNeg) m q pl pe := fun z y => by rw [go z, if_pos ((i32_not_le _ _).mp y)]
    have t2 : ∀ (z : ¬ (¬ im b.toNatClampNeg = -1 ∧ im b.toNatClampNeg ≤ m ∧ im b.toNatClampNeg ≤ q)) (y : pl r.toNatClampNeg ≤ m) (x : ¬ pe r.toNatClampNeg < m), (2 : Int32) = stF r (im b.toNatClampNeg) m q pl pe := fun z y x => by rw [go z, if_neg ((i32_not_lt _ _).mpr y), if_pos ((i32_not_lt _ _).mp x)]
    have t3 : ∀ (z : ¬ (¬ im b.toNatClampNeg = -1 ∧ im b.toNatClampNeg ≤ m ∧ im b.toNatClampNeg ≤ q)) (y : pl r.toNatClampNeg ≤ m) (x : pe r.toNatClampNeg < m), (3 : Int32) = stF r (im b.toNatClampNeg) m q pl pe := fun z y x => by rw [go z, if_neg ((i32_not_lt _ _).mpr y), if_neg ((i32_not_le _ _).mpr x)]
    conv => whnf
    refine ⟨fun h1 => ?_, fun h1 => ?_⟩
    · have z : ¬ (¬ im b.toNatClampNeg = -1 ∧ im b.toNatClampNeg ≤ m ∧ im b.toNatClampNeg ≤ q) := fun y => y.1 h1
      conv => whnf
      refine ⟨hjv h, ?_⟩
      conv => whnf
      refine ⟨fun h2 => ?_, fun h2 => ?_⟩
      · conv => whnf
        refine ⟨hjv h, ?_⟩
        conv => whnf
        refine ⟨fun h3 => ?_, fun h3 => ?_⟩
        · exact fin _ (t3 z h2 h3)
        · exact fin _ (t2 z h2 h3)
      · exact fin _ (t1 z h2)
    · conv => whnf
      refine ⟨fun h2 => ?_, fun h2 => ?_⟩
      · have z : ¬ (¬ im b.toNatClampNeg = -1 ∧ im b.toNatClampNeg ≤ m ∧ im b.toNatClampNeg ≤ q) := fun y => absurd y.2.1 ((i32_not_le _ _).mpr h2)
        conv => whnf
        refine ⟨hjv h, ?_⟩
        conv => whnf
        refine ⟨fun h3 => ?_, fun h3 => ?_⟩
        · conv => whnf
          refine ⟨hjv h, ?_⟩
          conv => whnf
          refine ⟨fun h4 => ?_, fun h4 => ?_⟩
          · exact fin _ (t3 z h3 h4)
          · exact fin _ (t2 z h3 h4)
        · exact fin _ (t1 z h3)
      · conv => whnf
        refine ⟨fun h3 => ?_, fun h3 => ?_⟩
        · have z : ¬ (¬ im b.toNatClampNeg = -1 ∧ im b.toNatClampNeg ≤ m ∧ im b.toNatClampNeg ≤ q) := fun y => absurd y.2.2 ((i32_not_le _ _).mpr h3)
          conv => whnf
          refine ⟨hjv h, ?_⟩
          conv => whnf
          refine ⟨fun h4 => ?_, fun h4 => ?_⟩
          · conv => whnf
            refine ⟨hjv h, ?_⟩
            conv => whnf
            refine ⟨fun h5 => ?_, fun h5 => ?_⟩
            · exact fin _ (t3 z h4 h5)
            · exact fin _ (t2 z h4 h5)
          · exact fin _ (t1 z h4)
        · refine fin _ ?_
          unfold stF
          rw [if_neg h, if_pos ⟨h1, (i32_not_lt _ _).mp h2, (i32_not_lt _ _).mp h3⟩]
theorem rv_X0_stateOf : rz_Rv yX0_stateOf.cls ce_X0_stateOf := fun av w h => by
  obtain ⟨_, _, _, _, _, _, _, _, _, _, _, rfl, rfl, _⟩ := h
  exact ⟨_, _, _, _, _, _, rfl, rfl, rfl⟩
theorem cn_X0_stateOf (l : Launch) : rz_Con l yX0_stateOf cX0_stateOf 6 (some .int) 1 0 0 ce_X0_stateOf := rz_con (by decide +kernel) fo_X0 (fun _ h => absurd h List.not_mem_nil) (by
  intro q hq
  rcases List.mem_cons.mp hq with rfl | hq
  · exact rz_callV (cn_X0_planKnown l) (by decide +kernel) ⟨Nat.le_of_ble_eq_true rfl, Nat.le_of_ble_eq_true rfl⟩ m_X0_planKnown rfl i_X0_planKnown v_X0_planKnown rv_X0_planKnown n_X0_48
  exact absurd hq List.not_mem_nil) r_X0_stateOf vc_X0_stateOf
def cntB (p : Nat → Bool) : Nat → Int32
  | 0 => 0
  | n + 1 => if p n then cntB p n + 1 else cntB p n
abbrev ovP (pe lp im : Nat → Int32) (m : Int32) : Nat → Bool := fun b => decide (im b = -1 ∧ pe (lp b).toNatClampNeg + 1 ≤ m)
def ce_X0_overdueAt : rz_K := (2, kBo, 0, true, fun av w => ∃ (pb pl pe pt lp im : Nat → Int32) (pn m : Int32) (n : Nat), av = [.ref 37, .int m] ∧ w = wBo pb pl pe pt lp im pn (nI n) ∧ n ≤ 30 ∧ ∀ b, b < n → vp_in (lp b) 100, fun av w o _ => ∀ n : Nat, rF w 37 7 = nI n → n ≤ 30 → rR o = cntB (ovP (rI w 40) (rI w 42) (rI w 43) (rA av 1)) n)
def cl_X0_overdueAt : List (Nat × rz_K) := []
def cv_X0_overdueAt : List (Nat × rz_K) := [(45, ce_X0_isIn), (52, ce_X0_firstOverdue)]
theorem vc_X0_overdueAt : rz_VC k_X0_overdueAt fl_X0 cl_X0_overdueAt cv_X0_overdueAt s_X0_overdueAt false 4 ce_X0_overdueAt := by
  intro av w hlen hk hpre
  obtain ⟨pb, pl, pe, pt, lp, im, pn, m, n, rfl, rfl, hn, hlp⟩ := hpre
  have hs : ∀ i, cntB (ovP pe lp im m) (i + 1) = if ovP pe lp im m i then cntB (ovP pe lp im m) i + 1 else cntB (ovP pe lp im m) i := fun _ => rfl
  refine ⟨Nat.le_of_ble_eq_true rfl, [(4, [0, 1, 2, 3], fun z lv w' => ∃ i : Nat, i ≤ n ∧ lv = [(0, .ref 37), (1, .int m), (2, .int (cntB (ovP pe lp im m) i)), (3, .int (nI i))] ∧ w' = wBo pb pl pe pt lp im pn (nI n) ∧ z = n - i)], 60, n + 1, ?_, ?_⟩
  · intro y hq z lv w' hj
    rcases List.mem_cons.mp hq with rfl | hq
    · obtain ⟨i, hi, rfl, rfl, rfl⟩ := hj
      conv => whnf
      refine ⟨fun c => ?_, fun c => ?_⟩
      · have e : i = n := by
          have := (nI_leI (by omega) (by omega)).mp c
          omega
        subst e
        refine ⟨⟨_, rfl⟩, fun _ => rfl, ?_⟩
        intro n' e1 h1
        have e1 : i = n' := nI_inj (by omega) (by omega) e1
        subst e1
        rfl
      · have hi2 : i < n := by
          rcases Nat.lt_or_ge i n with z | z
          · exact z
          · exact absurd (nI_le z (by omega)) c
        have hv : vp_in (nI i) 30 := vp_in_nI (by omega) (by omega)
        have hcl : (nI i).toNatClampNeg = i := nI_clamp (by omega)
        conv => whnf
        refine ⟨⟨pb, pl, pe, pt, lp, im, pn, nI n, nI i, rfl, rfl, hv⟩, ?_⟩
        intro r hr
        have hr : r = bI (¬ im (nI i).toNatClampNeg = -1) := hr
        rw [hcl] at hr
        subst hr
        conv => whnf
        refine ⟨fun c2 => ?_, fun c2 => ?_⟩
        · conv => whnf
          refine ⟨⟨pb, pl, pe, pt, lp, im, pn, nI n, nI i, rfl, rfl, hv, by rw [hcl]; exact hlp i hi2⟩, ?_⟩
          intro r hr
          have hr : r = pe (lp (nI i).toNatClampNeg).toNatClampNeg + 1 := hr
          rw [hcl] at hr
          subst hr
          conv => whnf
          refine ⟨fun c3 => ?_, fun c3 => ?_⟩
          · conv => whnf
            rintro _ rfl
            conv => whnf
            refine ⟨n - (i + 1), by omega, i + 1, by omega, ?_, rfl, rfl⟩
            show [_, _, (2, Value.int (cntB (ovP pe lp im m) i)), (3, Value.int (nI i + 1))] = _
            rw [nI_1, hs, if_neg (by simp only [decide_eq_true_eq]; exact fun y => absurd y.2 ((i32_not_le _ _).mpr c3))]
          · conv => whnf
            rintro _ rfl
            conv => whnf
            rintro _ rfl
            conv => whnf
            refine ⟨n - (i + 1), by omega, i + 1, by omega, ?_, rfl, rfl⟩
            show [_, _, (2, Value.int (cntB (ovP pe lp im m) i + 1)), (3, Value.int (nI i + 1))] = _
            rw [nI_1, hs, if_pos (by simp only [decide_eq_true_eq]; exact ⟨Decidable.not_not.mp (bI_0 c2), (i32_not_lt _ _).mp c3⟩)]
        · conv => whnf
          rintro _ rfl
          conv => whnf
          refine ⟨n - (i + 1), by omega, i + 1, by omega, ?_, rfl, rfl⟩
          show [_, _, (2, Value.int (cntB (ovP pe lp im m) i)), (3, Value.int (nI i + 1))] = _
          rw [nI_1, hs, if_neg (by simp only [decide_eq_true_eq]; exact fun y => bI_n c2 y.1)]
    · exact absurd hq List.not_mem_nil
  · conv => whnf
    rintro _ rfl
    conv => whnf
    rintro _ rfl
    conv => whnf
    refine ⟨n, by omega, 0, by omega, rfl, rfl, rfl⟩
theorem rv_X0_overdueAt : rz_Rv yX0_overdueAt.cls ce_X0_overdueAt := fun av w h => by
  obtain ⟨_, _, _, _, _, _, _, _, _, rfl, rfl, _⟩ := h
  exact ⟨_, _, _, _, _, _, rfl, rfl, rfl⟩
theorem cn_X0_overdueAt (l : Launch) : rz_Con l yX0_overdueAt cX0_overdueAt 4 (some .int) 1 0 0 ce_X0_overdueAt := rz_con (by decide +kernel) fo_X0 (fun _ h => absurd h List.not_mem_nil) (by
  intro q hq
  rcases List.mem_cons.mp hq with rfl | hq
  · exact rz_callV (cn_X0_isIn l) (by decide +kernel) ⟨Nat.le_of_ble_eq_true rfl, Nat.le_of_ble_eq_true rfl⟩ m_X0_isIn rfl i_X0_isIn v_X0_isIn rv_X0_isIn n_X0_45
  rcases List.mem_cons.mp hq with rfl | hq
  · exact rz_callV (cn_X0_firstOverdue l) (by decide +kernel) ⟨Nat.le_of_ble_eq_true rfl, Nat.le_of_ble_eq_true rfl⟩ m_X0_firstOverdue rfl i_X0_firstOverdue v_X0_firstOverdue rv_X0_firstOverdue n_X0_52
  exact absurd hq List.not_mem_nil) r_X0_overdueAt vc_X0_overdueAt
end
section
/-! CallLog of the class: who is called, and when. -/
abbrev wCB (de lb lr lm : Nat → Int32) (wr : Int32) (pb pl pe pt lp im : Nat → Int32) (pn sz : Int32) : rz_W := [(44, ro 1 [.ref 45, .ref 46, .ref 47, .ref 48, .int wr]), (45, ri 5 de), (46, ri 300 lb), (47, ri 300 lr), (48, ri 300 lm), (37, ro 0 [.ref 38, .ref 39, .ref 40, .ref 41, .ref 42, .ref 43, .int pn, .int sz]), (38, ri 100 pb), (39, ri 100 pl), (40, ri 100 pe), (41, ri 100 pt), (42, ri 30 lp), (43, ri 30 im)]
abbrev kCB : List Nat := [44, 45, 46, 47, 48, 37, 38, 39, 40, 41, 42, 43]
/-- the minute in which rule r calls for boat b, or NONE -/
def cmF (de pe lp im : Nat → Int32) (b r : Nat) : Int32 := if de r = -1 ∨ ¬ im b = -1 then -1 else pe (lp b).toNatClampNeg + 1 + de r
def ce_X1_callMinute : rz_K := (4, kCB, 0, true, fun av w => ∃ (de lb lr lm : Nat → Int32) (wr : Int32) (pb pl pe pt lp im : Nat → Int32) (pn sz : Int32) (b r : Nat), av = [.ref 44, .int (nI b), .int (nI r), .ref 37] ∧ w = wCB de lb lr lm wr pb pl pe pt lp im pn sz ∧ b < 30 ∧ r < 5 ∧ vp_in (lp b) 100, fun av w o _ => ∀ b r : Nat, rA av 1 = nI b → rA av 2 = nI r → b < 30 → r < 5 → rR o = cmF (rI w 45) (rI w 40) (rI w 42) (rI w 43) b r)
def cl_X1_callMinute : List (Nat × rz_K) := []
def cv_X1_callMinute : List (Nat × rz_K) := [(51, ce_X0_isIn), (55, ce_X0_firstOverdue)]
theorem vc_X1_callMinute : rz_VC k_X1_callMinute fl_X1 cl_X1_callMinute cv_X1_callMinute s_X1_callMinute false 4 ce_X1_callMinute := by
  intro av w hlen hk hpre
  obtain ⟨de, lb, lr, lm, wr, pb, pl, pe, pt, lp, im, pn, sz, b, r, rfl, rfl, hb, hr, hl⟩ := hpre
  refine ⟨Nat.le_of_ble_eq_true rfl, [], 60, 0, fun q h => absurd h List.not_mem_nil, ?_⟩
  have hcb : (nI b).toNatClampNeg = b := nI_clamp (by omega)
  have hcr : (nI r).toNatClampNeg = r := nI_clamp (by omega)
  have hvb : vp_in (nI b) 30 := vp_in_nI hb (by omega)
  have hvr : vp_in (nI r) 5 := vp_in_nI hr (by omega)
  have fin : ∀ v : Int32, v = cmF de pe lp im b r → rz_end ce_X1_callMinute [.ref 44, .int (nI b), .int (nI r), .ref 37] (wCB de lb lr lm wr pb pl pe pt lp im pn sz) (some (.int v)) (wCB de lb lr lm wr pb pl pe pt lp im pn sz) := by
    intro v hv
    refine ⟨⟨_, rfl⟩, fun _ => rfl, ?_⟩
    intro b' r' e1 e2 h1 h2
    have e1 : b = b' := nI_inj (by omega) (by omega) e1
    have e2 : r = r' := nI_inj (by omega) (by omega) e2
    subst e1 e2
    exact hv
  conv => whnf
  refine ⟨hvr, ?_⟩
  conv => whnf
  refine ⟨fun h => ?_, fun h => ?_⟩
  · have h : de (nI r).toNatClampNeg = -1 := h
    rw [hcr] at h
    exact fin _ (if_pos (Or.inl h)).symm
  · have h : ¬ de (nI r).toNatClampNeg = -1 := h
    rw [hcr] at h
    conv => whnf
    refine ⟨⟨pb, pl, pe, pt, lp, im, pn, sz, nI b, rfl, rfl, hvb⟩, ?_⟩
    intro x hx
    have hx : x = bI (¬ im (nI b).toNatClampNeg = -1) := hx
    rw [hcb] at hx
    subst hx
    conv => whnf
    refine ⟨fun h1 => ?_, fun h1 => ?_⟩
    · conv => whnf
      refine ⟨⟨pb, pl, pe, pt, lp, im, pn, sz, nI b, rfl, rfl, hvb, by rw [hcb]; exact hl⟩, ?_⟩
      intro x hx
      have hx : x = pe (lp (nI b).toNatClampNeg).toNatClampNeg + 1 := hx
      rw [hcb] at hx
      subst hx
      conv => whnf
      refine ⟨hvr, ?_⟩
      conv => whnf
      refine fin _ ?_
      show pe (lp b).toNatClampNeg + 1 + de (nI r).toNatClampNeg = _
      rw [hcr]
      exact (if_neg (fun z => z.elim h (bI_0 h1))).symm
    · exact fin _ (if_pos (Or.inr (bI_n h1))).symm
theorem rv_X1_callMinute : rz_Rv yX1_callMinute.cls ce_X1_callMinute := fun av w h => by
  obtain ⟨_, _, _, _, _, _, _, _, _, _, _, _, _, _, _, rfl, rfl, _⟩ := h
  exact ⟨_, _, _, _, _, _, rfl, rfl, rfl⟩
theorem cn_X1_callMinute (l : Launch) : rz_Con l yX1_callMinute cX1_callMinute 4 (some .int) 1 0 0 ce_X1_callMinute := rz_con (by decide +kernel) fo_X1 (fun _ h => absurd h List.not_mem_nil) (by
  intro q hq
  rcases List.mem_cons.mp hq with rfl | hq
  · exact rz_callVN (cn_X0_isIn l) (by decide +kernel) ⟨Nat.le_of_ble_eq_true rfl, Nat.le_of_ble_eq_true rfl⟩ m_X0_isIn rfl i_X0_isIn v_X0_isIn rv_X0_isIn n_X1_51
  rcases List.mem_cons.mp hq with rfl | hq
  · exact rz_callVN (cn_X0_firstOverdue l) (by decide +kernel) ⟨Nat.le_of_ble_eq_true rfl, Nat.le_of_ble_eq_true rfl⟩ m_X0_firstOverdue rfl i_X0_firstOverdue v_X0_firstOverdue rv_X0_firstOverdue n_X1_55
  exact absurd hq List.not_mem_nil) r_X1_callMinute vc_X1_callMinute
/-- the calls' minutes as one row: boat j / 5, rule j % 5 -/
def cmJ (de pe lp im : Nat → Int32) (j : Nat) : Int32 := cmF de pe lp im (j / 5) (j % 5)
theorem cmJ_at (de pe lp im : Nat → Int32) {b r : Nat} (hr : r < 5) : cmJ de pe lp im (5 * b + r) = cmF de pe lp im b r := by
  unfold cmJ
  rw [show (5 * b + r) / 5 = b by omega, show (5 * b + r) % 5 = r by omega]
/-- the least of c 0 .. c (n - 1) above a, or NONE -/
def nxF (c : Nat → Int32) (a : Int32) : Nat → Int32
  | 0 => -1
  | j + 1 => if a < c j ∧ (nxF c a j = -1 ∨ c j < nxF c a j) then c j else nxF c a j
def ce_X1_nextCall : rz_K := (3, kCB, 0, true, fun av w => ∃ (de lb lr lm : Nat → Int32) (wr : Int32) (pb pl pe pt lp im : Nat → Int32) (pn a : Int32) (n : Nat), av = [.ref 44, .int a, .ref 37] ∧ w = wCB de lb lr lm wr pb pl pe pt lp im pn (nI n) ∧ n ≤ 30 ∧ ∀ b, b < n → vp_in (lp b) 100, fun av w o _ => ∀ n : Nat, rF w 37 7 = nI n → n ≤ 30 → rR o = nxF (cmJ (rI w 45) (rI w 40) (rI w 42) (rI w 43)) (rA av 1) (5 * n))
def cl_X1_nextCall : List (Nat × rz_K) := []
def cv_X1_nextCall : List (Nat × rz_K) := [(47, ce_X1_callMinute)]
theorem vc_X1_nextCall : rz_VC k_X1_nextCall fl_X1 cl_X1_nextCall cv_X1_nextCall s_X1_nextCall false 7 ce_X1_nextCall := by
  intro av w hlen hk hpre
  obtain ⟨de, lb, lr, lm, wr, pb, pl, pe, pt, lp, im, pn, a, n, rfl, rfl, hn, hlp⟩ := hpre
  generalize hc : cmJ de pe lp im = c
  have hs : ∀ j, nxF c a (j + 1) = if a < c j ∧ (nxF c a j = -1 ∨ c j < nxF c a j) then c j else nxF c a j := fun _ => rfl
  refine ⟨Nat.le_of_ble_eq_true rfl, [
    (5, [0, 1, 2, 3, 4], fun z lv w' => ∃ b : Nat, b ≤ n ∧ lv = [(0, .ref 44), (1, .int a), (2, .ref 37), (3, .int (nxF c a (5 * b))), (4, .int (nI b))] ∧ w' = wCB de lb lr lm wr pb pl pe pt lp im pn (nI n) ∧ z = (n - b) * 20 + 10),
    (17, [0, 1, 2, 3, 4, 5], fun z lv w' => ∃ b r : Nat, b < n ∧ r ≤ 5 ∧ lv = [(0, .ref 44), (1, .int a), (2, .ref 37), (3, .int (nxF c a (5 * b + r))), (4, .int (nI b)), (5, .int (nI r))] ∧ w' = wCB de lb lr lm wr pb pl pe pt lp im pn (nI n) ∧ z = (n - b) * 20 + 9 - r)], 60, n * 20 + 11, ?_, ?_⟩
  · intro y hq z lv w' hj
    rcases List.mem_cons.mp hq with rfl | hq
    · obtain ⟨b, hb, rfl, rfl, rfl⟩ := hj
      conv => whnf
      refine ⟨fun k => ?_, fun k => ?_⟩
      · have e : b = n := by
          have := (nI_leI (by omega) (by omega)).mp k
          omega
        subst e
        refine ⟨⟨_, rfl⟩, fun _ => rfl, ?_⟩
        intro n' e1 h1
        have e1 : b = n' := nI_inj (by omega) (by omega) e1
        subst e1
        rw [← hc]
        rfl
      · have hb2 : b < n := by
          rcases Nat.lt_or_ge b n with z | z
          · exact z
          · exact absurd (nI_le z (by omega)) k
        conv => whnf
        rintro _ rfl
        conv => whnf
        refine ⟨(n - b) * 20 + 9, by omega, b, 0, hb2, by omega, rfl, rfl, rfl⟩
    rcases List.mem_cons.mp hq with rfl | hq
    · obtain ⟨b, r, hb, hr, rfl, rfl, rfl⟩ := hj
      conv => whnf
      refine ⟨fun k => ?_, fun k => ?_⟩
      · have k : nI 5 ≤ nI r := k
        have e : r = 5 := by
          have := (nI_leI (by omega) (by omega)).mp k
          omega
        subst e
        conv => whnf
        rintro _ rfl
        conv => whnf
        refine ⟨(n - (b + 1)) * 20 + 10, by omega, b + 1, by omega, ?_, rfl, rfl⟩
        show [_, _, _, (3, Value.int (nxF c a (5 * b + 5))), (4, Value.int (nI b + 1))] = _
        rw [nI_1, show 5 * b + 5 = 5 * (b + 1) by omega]
      · have k : ¬ nI 5 ≤ nI r := k
        have hr2 : r < 5 := by
          rcases Nat.lt_or_ge r 5 with z | z
          · exact z
          · exact absurd (nI_le z (by omega)) k
        conv => whnf
        refine ⟨⟨de, lb, lr, lm, wr, pb, pl, pe, pt, lp, im, pn, nI n, b, r, rfl, rfl, by omega, hr2, hlp b hb⟩, ?_⟩
        intro x hx
        have hx : x = cmF de pe lp im b r := hx b r rfl rfl (by omega) hr2
        rw [← cmJ_at de pe lp im hr2, hc] at hx
        subst hx
        have next : (n - b) * 20 + 9 - (r + 1) < (n - b) * 20 + 9 - r := by omega
        have stay : ¬ (a < c (5 * b + r) ∧ (nxF c a (5 * b + r) = -1 ∨ c (5 * b + r) < nxF c a (5 * b + r))) → nxF c a (5 * b + r) = nxF c a (5 * b + (r + 1)) := fun z => (if_neg z).symm
        have take : (a < c (5 * b + r) ∧ (nxF c a (5 * b + r) = -1 ∨ c (5 * b + r) < nxF c a (5 * b + r))) → c (5 * b + r) = nxF c a (5 * b + (r + 1)) := fun z => (if_pos z).symm
        conv => whnf
        rintro _ rfl
        conv => whnf
        refine ⟨fun k1 => ?_, fun k1 => ?_⟩
        · conv => whnf
          rintro _ rfl
          conv => whnf
          refine ⟨(n - b) * 20 + 9 - (r + 1), next, b, r + 1, hb, by omega, ?_, rfl, rfl⟩
          show [_, _, _, (3, Value.int (nxF c a (5 * b + r))), _, (5, Value.int (nI r + 1))] = _
          rw [nI_1, stay (fun z => absurd z.1 ((i32_not_lt _ _).mpr k1))]
        · conv => whnf
          refine ⟨fun k2 => ?_, fun k2 => ?_⟩
          · conv => whnf
            rintro _ rfl
            conv => whnf
            rintro _ rfl
            conv => whnf
            refine ⟨(n - b) * 20 + 9 - (r + 1), next, b, r + 1, hb, by omega, ?_, rfl, rfl⟩
            show [_, _, _, (3, Value.int (c (5 * b + r))), _, (5, Value.int (nI r + 1))] = _
            rw [nI_1, take ⟨(i32_not_le _ _).mp k1, Or.inl k2⟩]
          · conv => whnf
            refine ⟨fun k3 => ?_, fun k3 => ?_⟩
            · conv => whnf
              rintro _ rfl
              conv => whnf
              refine ⟨(n - b) * 20 + 9 - (r + 1), next, b, r + 1, hb, by omega, ?_, rfl, rfl⟩
              show [_, _, _, (3, Value.int (nxF c a (5 * b + r))), _, (5, Value.int (nI r + 1))] = _
              rw [nI_1, stay (fun z => z.2.elim k2 (fun y => absurd y ((i32_not_lt _ _).mpr k3)))]
            · conv => whnf
              rintro _ rfl
              conv => whnf
              rintro _ rfl
              conv => whnf
              refine ⟨(n - b) * 20 + 9 - (r + 1), next, b, r + 1, hb, by omega, ?_, rfl, rfl⟩
              show [_, _, _, (3, Value.int (c (5 * b + r))), _, (5, Value.int (nI r + 1))] = _
              rw [nI_1, take ⟨(i32_not_le _ _).mp k1, Or.inr ((i32_not_le _ _).mp k3)⟩]
    · exact absurd hq List.not_mem_nil
  · conv => whnf
    rintro _ rfl
    conv => whnf
    rintro _ rfl
    conv => whnf
    refine ⟨n * 20 + 10, by omega, 0, by omega, rfl, rfl, by omega⟩
theorem rv_X1_nextCall : rz_Rv yX1_nextCall.cls ce_X1_nextCall := fun av w h => by
  obtain ⟨_, _, _, _, _, _, _, _, _, _, _, _, _, _, rfl, rfl, _⟩ := h
  exact ⟨_, _, _, _, _, _, rfl, rfl, rfl⟩
theorem cn_X1_nextCall (l : Launch) : rz_Con l yX1_nextCall cX1_nextCall 7 (some .int) 2 0 0 ce_X1_nextCall := rz_con (by decide +kernel) fo_X1 (fun _ h => absurd h List.not_mem_nil) (by
  intro q hq
  rcases List.mem_cons.mp hq with rfl | hq
  · exact rz_callV (cn_X1_callMinute l) (by decide +kernel) ⟨Nat.le_of_ble_eq_true rfl, Nat.le_of_ble_eq_true rfl⟩ m_X1_callMinute rfl i_X1_callMinute v_X1_callMinute rv_X1_callMinute n_X1_47
  exact absurd hq List.not_mem_nil) r_X1_nextCall vc_X1_nextCall
/-- the log: boats, rules, minutes, how many calls -/
abbrev LgS : Type := (Nat → Int32) × (Nat → Int32) × (Nat → Int32) × Nat
def wlF (s : LgS) (b r m : Int32) : LgS := if s.2.2.2 < 300 then (upd s.1 s.2.2.2 b, upd s.2.1 s.2.2.2 r, upd s.2.2.1 s.2.2.2 m, s.2.2.2 + 1) else (s.1, s.2.1, s.2.2.1, s.2.2.2 + 1)
abbrev wLg (de : Nat → Int32) (s : LgS) : rz_W := wCl de s.1 s.2.1 s.2.2.1 (nI s.2.2.2)
def ce_X1_writeLine : rz_K := (4, kCl, 2, false, fun av w => ∃ (de : Nat → Int32) (s : LgS) (b r m : Int32), av = [.ref 44, .int b, .int r, .int m] ∧ w = wLg de s ∧ s.2.2.2 < 2 ^ 30, fun av w _ w' => ∀ q : Nat, rF w 44 4 = nI q → q < 2 ^ 30 → w' = wLg (rI w 45) (wlF (rI w 46, rI w 47, rI w 48, q) (rA av 1) (rA av 2) (rA av 3)))
def cl_X1_writeLine : List (Nat × rz_K) := []
def cv_X1_writeLine : List (Nat × rz_K) := []
theorem vc_X1_writeLine : rz_VC k_X1_writeLine fl_X1 cl_X1_writeLine cv_X1_writeLine s_X1_writeLine false 4 ce_X1_writeLine := by
  intro av w hlen hk hpre
  obtain ⟨de, ⟨lb, lr, lm, q⟩, b, r, m, rfl, rfl, hq⟩ := hpre
  have hq : q < 2 ^ 30 := hq
  refine ⟨Nat.le_of_ble_eq_true rfl, [], 60, 0, fun q h => absurd h List.not_mem_nil, ?_⟩
  have fin : ∀ w', w' = wLg de (wlF (lb, lr, lm, q) b r m) → rz_end ce_X1_writeLine [.ref 44, .int b, .int r, .int m] (wLg de (lb, lr, lm, q)) none w' := by
    intro w' hw
    refine ⟨rfl, fun z => (by cases z), ?_⟩
    intro q' e1 h1
    have e1 : q = q' := nI_inj (by omega) (by omega) e1
    subst e1
    exact hw
  conv => whnf
  refine ⟨fun h => ?_, fun h => ?_⟩
  · have h : nI 300 ≤ nI q := h
    have h := (nI_leI (by omega) (by omega)).mp h
    refine fin _ ?_
    show wCl de lb lr lm (nI q + 1) = _
    rw [nI_1, wlF, if_neg (by show ¬ q < 300; omega)]
  · have h : ¬ nI 300 ≤ nI q := h
    have h : q < 300 := by
      rcases Nat.lt_or_ge q 300 with z | z
      · exact z
      · exact absurd (nI_le z (by omega)) h
    have hv : vp_in (nI q) 300 := vp_in_nI h (by omega)
    conv => whnf
    refine ⟨hv, ?_⟩
    conv => whnf
    refine ⟨hv, ?_⟩
    conv => whnf
    refine ⟨hv, ?_⟩
    conv => whnf
    refine fin _ ?_
    show wCl de (upd lb (nI q).toNatClampNeg b) (upd lr (nI q).toNatClampNeg r) (upd lm (nI q).toNatClampNeg m) (nI q + 1) = _
    rw [nI_1, nI_clamp (by omega), wlF, if_pos h]
theorem rv_X1_writeLine : rz_Rv yX1_writeLine.cls ce_X1_writeLine := fun av w h => by
  obtain ⟨_, _, _, _, _, rfl, rfl, _⟩ := h
  exact ⟨_, _, _, _, _, _, rfl, rfl, rfl⟩
theorem cn_X1_writeLine (l : Launch) : rz_Con l yX1_writeLine cX1_writeLine 4 none 0 0 0 ce_X1_writeLine := rz_con (by decide +kernel) fo_X1 (fun _ h => absurd h List.not_mem_nil) (fun _ h => absurd h List.not_mem_nil) r_X1_writeLine vc_X1_writeLine
theorem wlF_n (s : LgS) (b r m : Int32) : (wlF s b r m).2.2.2 = s.2.2.2 + 1 := by
  unfold wlF
  by_cases h : s.2.2.2 < 300
  · rw [if_pos h]
  · rw [if_neg h]
/-- the calls of minute m, by boats, then rules -/
def wmF (c : Nat → Int32) (m : Int32) (s : LgS) : Nat → LgS
  | 0 => s
  | j + 1 => if c j = m then wlF (wmF c m s j) (nI (j / 5)) (nI (j % 5)) m else wmF c m s j
theorem wmF_n (c : Nat → Int32) (m : Int32) (s : LgS) : ∀ j, (wmF c m s j).2.2.2 ≤ s.2.2.2 + j
  | 0 => Nat.le_refl _
  | j + 1 => by
    have ih := wmF_n c m s j
    unfold wmF
    by_cases h : c j = m
    · rw [if_pos h, wlF_n]; omega
    · rw [if_neg h]; omega
abbrev wCBs (de : Nat → Int32) (s : LgS) (pb pl pe pt lp im : Nat → Int32) (pn sz : Int32) : rz_W := wCB de s.1 s.2.1 s.2.2.1 (nI s.2.2.2) pb pl pe pt lp im pn sz
def rLS (w : rz_W) (q : Nat) : LgS := (rI w 46, rI w 47, rI w 48, q)
def sLS (w : rz_W) (s : LgS) : rz_W := rz_set (rz_set (rz_set (rz_set w 44 (ro 1 [.ref 45, .ref 46, .ref 47, .ref 48, .int (nI s.2.2.2)])) 46 (ri 300 s.1)) 47 (ri 300 s.2.1)) 48 (ri 300 s.2.2.1)
def ce_X1_writeMinute : rz_K := (3, kCB, 2, false, fun av w => ∃ (de : Nat → Int32) (s : LgS) (pb pl pe pt lp im : Nat → Int32) (pn m : Int32) (n : Nat), av = [.ref 44, .int m, .ref 37] ∧ w = wCBs de s pb pl pe pt lp im pn (nI n) ∧ n ≤ 30 ∧ (∀ b, b < n → vp_in (lp b) 100) ∧ s.2.2.2 < 2 ^ 29, fun av w _ w' => ∀ n q : Nat, rF w 37 7 = nI n → n ≤ 30 → rF w 44 4 = nI q → q < 2 ^ 29 → w' = sLS w (wmF (cmJ (rI w 45) (rI w 40) (rI w 42) (rI w 43)) (rA av 1) (rLS w q) (5 * n)))
def cl_X1_writeMinute : List (Nat × rz_K) := []
def cv_X1_writeMinute : List (Nat × rz_K) := [(47, ce_X1_callMinute), (59, ce_X1_writeLine)]
theorem vc_X1_writeMinute : rz_VC k_X1_writeMinute fl_X1 cl_X1_writeMinute cv_X1_writeMinute s_X1_writeMinute false 5 ce_X1_writeMinute := by
  intro av w hlen hk hpre
  obtain ⟨de, s, pb, pl, pe, pt, lp, im, pn, m, n, rfl, rfl, hn, hlp, hsz⟩ := hpre
  generalize hc : cmJ de pe lp im = c
  have hnn := wmF_n c m s
  refine ⟨Nat.le_of_ble_eq_true rfl, [
    (2, [0, 1, 2, 3], fun z lv w' => ∃ b : Nat, b ≤ n ∧ lv = [(0, .ref 44), (1, .int m), (2, .ref 37), (3, .int (nI b))] ∧ w' = wCBs de (wmF c m s (5 * b)) pb pl pe pt lp im pn (nI n) ∧ z = (n - b) * 20 + 10),
    (13, [0, 1, 2, 3, 4], fun z lv w' => ∃ b r : Nat, b < n ∧ r ≤ 5 ∧ lv = [(0, .ref 44), (1, .int m), (2, .ref 37), (3, .int (nI b)), (4, .int (nI r))] ∧ w' = wCBs de (wmF c m s (5 * b + r)) pb pl pe pt lp im pn (nI n) ∧ z = (n - b) * 20 + 9 - r)], 60, n * 20 + 11, ?_, ?_⟩
  · intro y hq z lv w' hj
    rcases List.mem_cons.mp hq with rfl | hq
    · obtain ⟨b, hb, rfl, rfl, rfl⟩ := hj
      conv => whnf
      refine ⟨fun k => ?_, fun k => ?_⟩
      · have e : b = n := by
          have := (nI_leI (by omega) (by omega)).mp k
          omega
        subst e
        refine ⟨rfl, fun z => (by cases z), ?_⟩
        intro n' q e1 h1 e2 h2
        have e1 : b = n' := nI_inj (by omega) (by omega) e1
        have e2 : s.2.2.2 = q := nI_inj (by omega) (by omega) e2
        subst e1 e2
        rw [← hc]
        rfl
      · have hb2 : b < n := by
          rcases Nat.lt_or_ge b n with z | z
          · exact z
          · exact absurd (nI_le z (by omega)) k
        conv => whnf
        rintro _ rfl
        conv => whnf
        refine ⟨(n - b) * 20 + 9, by omega, b, 0, hb2, by omega, rfl, rfl, rfl⟩
    rcases List.mem_cons.mp hq with rfl | hq
    · obtain ⟨b, r, hb, hr, rfl, rfl, rfl⟩ := hj
      conv => whnf
      refine ⟨fun k => ?_, fun k => ?_⟩
      · have k : nI 5 ≤ nI r := k
        have e : r = 5 := by
          have := (nI_leI (by omega) (by omega)).mp k
          omega
        subst e
        conv => whnf
        rintro _ rfl
        conv => whnf
        refine ⟨(n - (b + 1)) * 20 + 10, by omega, b + 1, by omega, ?_, ?_, rfl⟩
        · show [_, _, _, (3, Value.int (nI b + 1))] = _
          rw [nI_1]
        · rw [show 5 * (b + 1) = 5 * b + 5 by omega]
      · have k : ¬ nI 5 ≤ nI r := k
        have hr2 : r < 5 := by
          rcases Nat.lt_or_ge r 5 with z | z
          · exact z
          · exact absurd (nI_le z (by omega)) k
        conv => whnf
        refine ⟨⟨de, _, _, _, _, pb, pl, pe, pt, lp, im, pn, nI n, b, r, rfl, rfl, by omega, hr2, hlp b hb⟩, ?_⟩
        intro x hx
        have hx : x = cmF de pe lp im b r := hx b r rfl rfl (by omega) hr2
        rw [← cmJ_at de pe lp im hr2, hc] at hx
        subst hx
        have next : (n - b) * 20 + 9 - (r + 1) < (n - b) * 20 + 9 - r := by omega
        conv => whnf
        refine ⟨fun k1 => ?_, fun k1 => ?_⟩
        · have hlt : (wmF c m s (5 * b + r)).2.2.2 < 2 ^ 30 := Nat.lt_of_le_of_lt (hnn _) (by omega)
          conv => whnf
          refine ⟨⟨de, wmF c m s (5 * b + r), nI b, nI r, m, rfl, rfl, hlt⟩, ?_⟩
          intro wc hwc
          have hwc : wc = wLg de (wlF (wmF c m s (5 * b + r)) (nI b) (nI r) m) := hwc _ rfl hlt
          subst hwc
          conv => whnf
          rintro _ rfl
          conv => whnf
          refine ⟨(n - b) * 20 + 9 - (r + 1), next, b, r + 1, hb, by omega, ?_, ?_, rfl⟩
          · show [_, _, _, _, (4, Value.int (nI r + 1))] = _
            rw [nI_1]
          · have e : wmF c m s (5 * b + (r + 1)) = wlF (wmF c m s (5 * b + r)) (nI b) (nI r) m := by
              show (if c (5 * b + r) = m then wlF (wmF c m s (5 * b + r)) (nI ((5 * b + r) / 5)) (nI ((5 * b + r) % 5)) m else wmF c m s (5 * b + r)) = _
              rw [if_pos k1, show (5 * b + r) / 5 = b by omega, show (5 * b + r) % 5 = r by omega]
            rw [e]
            rfl
        · conv => whnf
          rintro _ rfl
          conv => whnf
          refine ⟨(n - b) * 20 + 9 - (r + 1), next, b, r + 1, hb, by omega, ?_, ?_, rfl⟩
          · show [_, _, _, _, (4, Value.int (nI r + 1))] = _
            rw [nI_1]
          · have e : wmF c m s (5 * b + (r + 1)) = wmF c m s (5 * b + r) := by
              show (if c (5 * b + r) = m then _ else wmF c m s (5 * b + r)) = _
              rw [if_neg k1]
            rw [e]
    · exact absurd hq List.not_mem_nil
  · conv => whnf
    rintro _ rfl
    conv => whnf
    refine ⟨n * 20 + 10, by omega, 0, by omega, rfl, rfl, by omega⟩
theorem rv_X1_writeMinute : rz_Rv yX1_writeMinute.cls ce_X1_writeMinute := fun av w h => by
  obtain ⟨_, _, _, _, _, _, _, _, _, _, _, rfl, rfl, _⟩ := h
  exact ⟨_, _, _, _, _, _, rfl, rfl, rfl⟩
theorem cn_X1_writeMinute (l : Launch) : rz_Con l yX1_writeMinute cX1_writeMinute 5 none 2 0 0 ce_X1_writeMinute := rz_con (by decide +kernel) fo_X1 (fun _ h => absurd h List.not_mem_nil) (by
  intro q hq
  rcases List.mem_cons.mp hq with rfl | hq
  · exact rz_callV (cn_X1_callMinute l) (by decide +kernel) ⟨Nat.le_of_ble_eq_true rfl, Nat.le_of_ble_eq_true rfl⟩ m_X1_callMinute rfl i_X1_callMinute v_X1_callMinute rv_X1_callMinute n_X1_47
  rcases List.mem_cons.mp hq with rfl | hq
  · exact rz_callV (cn_X1_writeLine l) (by decide +kernel) ⟨Nat.le_of_ble_eq_true rfl, Nat.le_of_ble_eq_true rfl⟩ m_X1_writeLine rfl i_X1_writeLine v_X1_writeLine rv_X1_writeLine n_X1_59
  exact absurd hq List.not_mem_nil) r_X1_writeMinute vc_X1_writeMinute
/-- from call to call -/
def wsF (c : Nat → Int32) (n : Nat) (to : Int32) : Nat → Int32 → LgS → LgS
  | 0, _, s => s
  | i + 1, m, s => if m = -1 ∨ to < m then s else wsF c n to i (nxF c m (5 * n)) (wmF c m s (5 * n))
def ce_X1_writeMinutes : rz_K := (4, kCB, 2, false, fun av w => ∃ (de : Nat → Int32) (s : LgS) (pb pl pe pt lp im : Nat → Int32) (pn fr to : Int32) (n : Nat), av = [.ref 44, .int fr, .int to, .ref 37] ∧ w = wCBs de s pb pl pe pt lp im pn (nI n) ∧ n ≤ 30 ∧ (∀ b, b < n → vp_in (lp b) 100) ∧ s.2.2.2 < 2 ^ 28, fun av w _ w' => ∀ n q : Nat, rF w 37 7 = nI n → n ≤ 30 → rF w 44 4 = nI q → q < 2 ^ 28 → w' = sLS w (wsF (cmJ (rI w 45) (rI w 40) (rI w 42) (rI w 43)) n (rA av 2) 150 (nxF (cmJ (rI w 45) (rI w 40) (rI w 42) (rI w 43)) (rA av 1) (5 * n)) (rLS w q)))
def cl_X1_writeMinutes : List (Nat × rz_K) := []
def cv_X1_writeMinutes : List (Nat × rz_K) := [(34, ce_X1_nextCall), (38, ce_X1_writeMinute)]
theorem vc_X1_writeMinutes : rz_VC k_X1_writeMinutes fl_X1 cl_X1_writeMinutes cv_X1_writeMinutes s_X1_writeMinutes false 6 ce_X1_writeMinutes := by
  intro av w hlen hk hpre
  obtain ⟨de, s, pb, pl, pe, pt, lp, im, pn, fr, to, n, rfl, rfl, hn, hlp, hsz⟩ := hpre
  generalize hc : cmJ de pe lp im = c
  have fin : ∀ s', wsF c n to 150 (nxF c fr (5 * n)) s = s' → rz_end ce_X1_writeMinutes [.ref 44, .int fr, .int to, .ref 37] (wCBs de s pb pl pe pt lp im pn (nI n)) none (wCBs de s' pb pl pe pt lp im pn (nI n)) := by
    intro s' hs'
    refine ⟨rfl, fun z => (by cases z), ?_⟩
    intro n' q e1 h1 e2 h2
    have e1 : n = n' := nI_inj (by omega) (by omega) e1
    have e2 : s.2.2.2 = q := nI_inj (by omega) (by omega) e2
    subst e1 e2
    rw [← hs', ← hc]
    rfl
  have nc : ∀ (s1 : LgS) (a r : Int32), ce_X1_nextCall.2.2.2.2.2 [.ref 44, .int a, .ref 37] (wCBs de s1 pb pl pe pt lp im pn (nI n)) (some (.int r)) (wCBs de s1 pb pl pe pt lp im pn (nI n)) → r = nxF c a (5 * n) := by
    intro s1 a r hr
    replace hr := hr n rfl hn
    rw [← hc]
    exact hr
  refine ⟨Nat.le_of_ble_eq_true rfl, [
    (11, [0, 1, 2, 3, 4, 5], fun z lv w' => ∃ (i : Nat) (m : Int32) (s1 : LgS), i ≤ 150 ∧ wsF c n to 150 (nxF c fr (5 * n)) s = wsF c n to (150 - i) m s1 ∧ s1.2.2.2 ≤ s.2.2.2 + 150 * i ∧ lv = [(0, .ref 44), (1, .int fr), (2, .int to), (3, .ref 37), (4, .int m), (5, .int (nI i))] ∧ w' = wCBs de s1 pb pl pe pt lp im pn (nI n) ∧ z = 150 - i)], 60, 151, ?_, ?_⟩
  · intro y hq z lv w' hj
    rcases List.mem_cons.mp hq with rfl | hq
    · obtain ⟨i, m, s1, hi, hws, hs1, rfl, rfl, rfl⟩ := hj
      conv => whnf
      refine ⟨fun k => ?_, fun k => ?_⟩
      · have k : nI 150 ≤ nI i := k
        have e : i = 150 := by
          have := (nI_leI (by omega) (by omega)).mp k
          omega
        subst e
        exact fin _ hws
      · have k : ¬ nI 150 ≤ nI i := k
        have hi2 : i < 150 := by
          rcases Nat.lt_or_ge i 150 with z | z
          · exact z
          · exact absurd (nI_le z (by omega)) k
        obtain ⟨d, hd⟩ : ∃ d, 150 - i = d + 1 := ⟨150 - i - 1, by omega⟩
        have hu : wsF c n to (150 - i) m s1 = if m = -1 ∨ to < m then s1 else wsF c n to d (nxF c m (5 * n)) (wmF c m s1 (5 * n)) := by rw [hd]; rfl
        conv => whnf
        refine ⟨fun k1 => ?_, fun k1 => ?_⟩
        · exact fin _ (by rw [hws, hu, if_pos (Or.inl k1)])
        · conv => whnf
          refine ⟨fun k2 => ?_, fun k2 => ?_⟩
          · exact fin _ (by rw [hws, hu, if_pos (Or.inr k2)])
          · have hlt : s1.2.2.2 < 2 ^ 29 := by omega
            conv => whnf
            refine ⟨⟨de, s1, pb, pl, pe, pt, lp, im, pn, m, n, rfl, rfl, hn, hlp, hlt⟩, ?_⟩
            intro wc hwc
            have hwc : wc = wCBs de (wmF (cmJ de pe lp im) m s1 (5 * n)) pb pl pe pt lp im pn (nI n) := hwc n _ rfl hn rfl hlt
            rw [hc] at hwc
            subst hwc
            conv => whnf
            refine ⟨⟨de, _, _, _, _, pb, pl, pe, pt, lp, im, pn, m, n, rfl, rfl, hn, hlp⟩, ?_⟩
            intro r hr
            obtain rfl := nc (wmF c m s1 (5 * n)) m r hr
            conv => whnf
            rintro _ rfl
            conv => whnf
            rintro _ rfl
            have hb := wmF_n c m s1 (5 * n)
            conv => whnf
            refine ⟨150 - (i + 1), by omega, i + 1, nxF c m (5 * n), wmF c m s1 (5 * n), by omega, ?_, by omega, ?_, rfl, rfl⟩
            · rw [hws, hu, if_neg (fun z => z.elim k1 k2), show 150 - (i + 1) = d by omega]
            · show [_, _, _, _, _, (5, Value.int (nI i + 1))] = _
              rw [nI_1]
    · exact absurd hq List.not_mem_nil
  · conv => whnf
    refine ⟨⟨de, _, _, _, _, pb, pl, pe, pt, lp, im, pn, fr, n, rfl, rfl, hn, hlp⟩, ?_⟩
    intro r hr
    obtain rfl := nc s fr r hr
    conv => whnf
    rintro _ rfl
    conv => whnf
    rintro _ rfl
    conv => whnf
    refine ⟨150, by omega, 0, nxF c fr (5 * n), s, by omega, rfl, by omega, rfl, rfl, rfl⟩
theorem rv_X1_writeMinutes : rz_Rv yX1_writeMinutes.cls ce_X1_writeMinutes := fun av w h => by
  obtain ⟨_, _, _, _, _, _, _, _, _, _, _, _, rfl, rfl, _⟩ := h
  exact ⟨_, _, _, _, _, _, rfl, rfl, rfl⟩
theorem cn_X1_writeMinutes (l : Launch) : rz_Con l yX1_writeMinutes cX1_writeMinutes 6 none 3 0 0 ce_X1_writeMinutes := rz_con (by decide +kernel) fo_X1 (fun _ h => absurd h List.not_mem_nil) (by
  intro q hq
  rcases List.mem_cons.mp hq with rfl | hq
  · exact rz_callV (cn_X1_nextCall l) (by decide +kernel) ⟨Nat.le_of_ble_eq_true rfl, Nat.le_of_ble_eq_true rfl⟩ m_X1_nextCall rfl i_X1_nextCall v_X1_nextCall rv_X1_nextCall n_X1_34
  rcases List.mem_cons.mp hq with rfl | hq
  · exact rz_callV (cn_X1_writeMinute l) (by decide +kernel) ⟨Nat.le_of_ble_eq_true rfl, Nat.le_of_ble_eq_true rfl⟩ m_X1_writeMinute rfl i_X1_writeMinute v_X1_writeMinute rv_X1_writeMinute n_X1_38
  exact absurd hq List.not_mem_nil) r_X1_writeMinutes vc_X1_writeMinutes
abbrev okL (i : Int32) (q : Nat) : Prop := 0 ≤ i ∧ i ≤ (if (300 : Int32) < nI q then 300 else nI q) - 1
def ce_X1_partOf : rz_K := (3, kCl, 0, true, fun av w => ∃ (de : Nat → Int32) (s : LgS) (i a : Int32), av = [.ref 44, .int i, .int a] ∧ w = wLg de s ∧ s.2.2.2 < 2 ^ 30, fun av w o _ => ∀ q : Nat, rF w 44 4 = nI q → q < 2 ^ 30 → rR o = if okL (rA av 1) q then (if rA av 2 = 0 then rI w 46 (rA av 1).toNatClampNeg else if rA av 2 = 1 then rI w 47 (rA av 1).toNatClampNeg else if rA av 2 = 2 then rI w 48 (rA av 1).toNatClampNeg else -1) else -1)
def cl_X1_partOf : List (Nat × rz_K) := [(63, ce_J9_min_7cf53), (69, ce_X6_isWithin)]
def cv_X1_partOf : List (Nat × rz_K) := []
theorem okL_vp {i : Int32} {q : Nat} (h : okL i q) (hq : q < 2 ^ 30) : vp_in i 300 := by
  obtain ⟨h1, h2⟩ := h
  by_cases z : (300 : Int32) < nI q
  · rw [if_pos z] at h2
    exact vp_of2 h1 h2 rfl
  · rw [if_neg z] at h2
    have z : ¬ nI 300 < nI q := z
    have hq2 : q ≤ 300 := by
      rcases Nat.lt_or_ge 300 q with y | y
      · exact absurd (nI_lt y (by omega)) z
      · exact y
    exact okS_vp ⟨h1, h2⟩ hq2 (by omega)
theorem vc_X1_partOf : rz_VC k_X1_partOf fl_X1 cl_X1_partOf cv_X1_partOf s_X1_partOf false 3 ce_X1_partOf := by
  intro av w hlen hk hpre
  obtain ⟨de, ⟨lb, lr, lm, q⟩, i, a, rfl, rfl, hq⟩ := hpre
  have hq : q < 2 ^ 30 := hq
  refine ⟨Nat.le_of_ble_eq_true rfl, [], 60, 0, fun q h => absurd h List.not_mem_nil, ?_⟩
  have fin : ∀ v : Int32, (v = if okL i q then (if a = 0 then lb i.toNatClampNeg else if a = 1 then lr i.toNatClampNeg else if a = 2 then lm i.toNatClampNeg else -1) else -1) → rz_end ce_X1_partOf [.ref 44, .int i, .int a] (wLg de (lb, lr, lm, q)) (some (.int v)) (wLg de (lb, lr, lm, q)) := by
    intro v hv
    refine ⟨⟨_, rfl⟩, fun _ => rfl, ?_⟩
    intro q' e1 h1
    have e1 : q = q' := nI_inj (by omega) (by omega) e1
    subst e1
    exact hv
  conv => whnf
  refine ⟨⟨_, _, rfl, rfl, trivial⟩, ?_⟩
  intro x hx
  obtain rfl : x = if (300 : Int32) < nI q then 300 else nI q := hx
  conv => whnf
  refine ⟨⟨_, _, _, rfl, rfl, trivial⟩, ?_⟩
  intro r hr
  obtain rfl : r = bI (okL i q) := hr
  conv => whnf
  refine ⟨fun h => ?_, fun h => ?_⟩
  · exact fin _ (if_neg (bI_0 h)).symm
  · have hv := okL_vp (bI_n h) hq
    conv => whnf
    refine ⟨fun h1 => ?_, fun h1 => ?_⟩
    · conv => whnf
      refine ⟨hv, ?_⟩
      conv => whnf
      refine fin _ ?_
      rw [if_pos (bI_n h), if_pos h1]
    · conv => whnf
      refine ⟨fun h2 => ?_, fun h2 => ?_⟩
      · conv => whnf
        refine ⟨hv, ?_⟩
        conv => whnf
        refine fin _ ?_
        rw [if_pos (bI_n h), if_neg h1, if_pos h2]
      · conv => whnf
        refine ⟨fun h3 => ?_, fun h3 => ?_⟩
        · conv => whnf
          refine ⟨hv, ?_⟩
          conv => whnf
          refine fin _ ?_
          rw [if_pos (bI_n h), if_neg h1, if_neg h2, if_pos h3]
        · refine fin _ ?_
          rw [if_pos (bI_n h), if_neg h1, if_neg h2, if_neg h3]
theorem rv_X1_partOf : rz_Rv yX1_partOf.cls ce_X1_partOf := fun av w h => by
  obtain ⟨_, _, _, _, rfl, rfl, _⟩ := h
  exact ⟨_, _, _, _, _, _, rfl, rfl, rfl⟩
theorem cn_X1_partOf (l : Launch) : rz_Con l yX1_partOf cX1_partOf 3 (some .int) 1 0 0 ce_X1_partOf := rz_con (by decide +kernel) fo_X1 (by
  intro q hq
  rcases List.mem_cons.mp hq with rfl | hq
  · exact rz_callS (cn_J9_min_7cf53 l) (by decide +kernel) ⟨Nat.le_of_ble_eq_true rfl, Nat.le_of_ble_eq_true rfl⟩ m_J9_min_7cf53 t_J9_min_7cf53 n_X1_63
  rcases List.mem_cons.mp hq with rfl | hq
  · exact rz_callSN (cn_X6_isWithin l) (by decide +kernel) ⟨Nat.le_of_ble_eq_true rfl, Nat.le_of_ble_eq_true rfl⟩ m_X6_isWithin t_X6_isWithin n_X1_69
  exact absurd hq List.not_mem_nil) (fun _ h => absurd h List.not_mem_nil) r_X1_partOf vc_X1_partOf
end
section
/-! CoastWatch: plan, in, boat, call, step, log, count. -/
abbrev okQ (le du gr : Int32) : Prop := (0 ≤ le ∧ le ≤ 20000) ∧ (le ≤ du ∧ du ≤ 20000) ∧ 0 ≤ gr ∧ gr ≤ 600
theorem okT_b {b : Int32} {n k : Nat} {im : Nat → Int32} (h : okT b n k im) (hn : n ≤ 30) : ∃ j, b = nI j ∧ j < 30 ∧ j ≤ n := by
  rcases h.2 with z | z
  · have hv := okS_vp z.1 hn (by omega)
    have hv2 := okS_vp z.1 (Nat.le_refl n) (by omega)
    obtain ⟨j, h1, h2⟩ := vp_in_of hv2 (by omega)
    exact ⟨j, h2, by omega, by omega⟩
  · exact ⟨n, z.2.1, z.2.2, Nat.le_refl _⟩
def ce_X6_plan : rz_K := (5, 0 :: kBo, 0, false, fun av w => ∃ (pb pl pe pt lp im : Nat → Int32) (nw b le du gr : Int32) (k n : Nat), av = [.ref 0, .int b, .int le, .int du, .int gr] ∧ w = (0, oCW nw) :: wBo pb pl pe pt lp im (nI k) (nI n) ∧ k ≤ 100 ∧ n ≤ 30, fun av w o w' => ∀ k n : Nat, rF w 37 6 = nI k → k ≤ 100 → rF w 37 7 = nI n → n ≤ 30 → if okQ (rA av 2) (rA av 3) (rA av 4) ∧ okT (rA av 1) n k (rI w 43) then rR o = rA av 1 ∧ ∃ j, rA av 1 = nI j ∧ j < 30 ∧ j ≤ n ∧ w' = (0, oCW (rF w 0 6)) :: wBo (upd (rI w 38) k (nI j)) (upd (rI w 39) k (rA av 2)) (upd (rI w 40) k (rA av 3 + rA av 4)) (upd (rI w 41) k (rF w 0 6)) (upd (rI w 42) j (nI k)) (if j = n then upd (rI w 43) j (-1) else rI w 43) (nI (k + 1)) (nI (if j = n then n + 1 else n)) else rR o = -1 ∧ w' = w)
def cl_X6_plan : List (Nat × rz_K) := [(59, ce_X6_isWithin), (140, ce_X6_isMinute)]
def cv_X6_plan : List (Nat × rz_K) := [(143, ce_X0_takesPlan), (146, ce_X0_addPlan)]
theorem vc_X6_plan : rz_VC k_X6_plan fl_X6 cl_X6_plan cv_X6_plan s_X6_plan false 5 ce_X6_plan := by
  intro av w hlen hk hpre
  obtain ⟨pb, pl, pe, pt, lp, im, nw, b, le, du, gr, k, n, rfl, rfl, hk2, hn⟩ := hpre
  refine ⟨Nat.le_of_ble_eq_true rfl, [], 60, 0, fun q h => absurd h List.not_mem_nil, ?_⟩
  have no : ¬ (okQ le du gr ∧ okT b n k im) → rz_end ce_X6_plan [.ref 0, .int b, .int le, .int du, .int gr] ((0, oCW nw) :: wBo pb pl pe pt lp im (nI k) (nI n)) (some (.int (-1))) ((0, oCW nw) :: wBo pb pl pe pt lp im (nI k) (nI n)) := by
    intro z1
    refine ⟨⟨_, rfl⟩, fun z => (by cases z), ?_⟩
    intro k' n' e1 h1 e2 h2
    have e1 : k = k' := nI_inj (by omega) (by omega) e1
    have e2 : n = n' := nI_inj (by omega) (by omega) e2
    subst e1 e2
    exact if_no z1 ⟨rfl, rfl⟩
  conv => whnf
  refine ⟨⟨_, rfl, rfl, trivial⟩, ?_⟩
  intro r hr
  obtain rfl : r = bI (0 ≤ le ∧ le ≤ 20000) := hr
  conv => whnf
  refine ⟨fun h1 => ?_, fun h1 => ?_⟩
  · exact no (fun z => bI_0 h1 z.1.1)
  · conv => whnf
    refine ⟨⟨_, _, _, rfl, rfl, trivial⟩, ?_⟩
    intro r hr
    obtain rfl : r = bI (le ≤ du ∧ du ≤ 20000) := hr
    conv => whnf
    refine ⟨fun h2 => ?_, fun h2 => ?_⟩
    · exact no (fun z => bI_0 h2 z.1.2.1)
    · conv => whnf
      refine ⟨⟨_, _, _, rfl, rfl, trivial⟩, ?_⟩
      intro r hr
      obtain rfl : r = bI (0 ≤ gr ∧ gr ≤ 600) := hr
      conv => whnf
      refine ⟨fun h3 => ?_, fun h3 => ?_⟩
      · exact no (fun z => bI_0 h3 z.1.2.2)
      · conv => whnf
        refine ⟨⟨pb, pl, pe, pt, lp, im, b, k, n, rfl, rfl, hk2, hn⟩, ?_⟩
        intro r hr
        obtain rfl : r = bI (okT b n k im) := hr k n rfl hk2 rfl hn
        conv => whnf
        refine ⟨fun h4 => ?_, fun h4 => ?_⟩
        · exact no (fun z => bI_0 h4 z.2)
        · have hT := bI_n h4
          obtain ⟨j, rfl, hj, hjn⟩ := okT_b hT hn
          conv => whnf
          refine ⟨⟨pb, pl, pe, pt, lp, im, le, du + gr, nw, j, k, n, rfl, rfl, hT.1, hj, hjn, hn⟩, ?_⟩
          intro wc hwc
          have hwc := hwc j k n rfl rfl rfl hT.1 hj hn
          subst hwc
          conv => whnf
          refine ⟨⟨_, rfl⟩, fun z => (by cases z), ?_⟩
          intro k' n' e1 g1 e2 g2
          have e1 : k = k' := nI_inj (by omega) (by omega) e1
          have e2 : n = n' := nI_inj (by omega) (by omega) e2
          subst e1 e2
          exact if_yes ⟨⟨bI_n h1, bI_n h2, bI_n h3⟩, hT⟩ ⟨rfl, j, rfl, hj, hjn, rfl⟩
theorem rv_X6_plan : rz_Rv yX6_plan.cls ce_X6_plan := fun av w h => by
  obtain ⟨_, _, _, _, _, _, _, _, _, _, _, _, _, rfl, rfl, _⟩ := h
  exact ⟨_, _, _, _, _, _, rfl, rfl, rfl⟩
theorem cn_X6_plan (l : Launch) : rz_Con l yX6_plan cX6_plan 5 (some .int) 3 0 0 ce_X6_plan := rz_con (by decide +kernel) fo_X6 (by
  intro q hq
  rcases List.mem_cons.mp hq with rfl | hq
  · exact rz_callS (cn_X6_isWithin l) (by decide +kernel) ⟨Nat.le_of_ble_eq_true rfl, Nat.le_of_ble_eq_true rfl⟩ m_X6_isWithin t_X6_isWithin n_X6_59
  rcases List.mem_cons.mp hq with rfl | hq
  · exact rz_callS (cn_X6_isMinute l) (by decide +kernel) ⟨Nat.le_of_ble_eq_true rfl, Nat.le_of_ble_eq_true rfl⟩ m_X6_isMinute t_X6_isMinute n_X6_140
  exact absurd hq List.not_mem_nil) (by
  intro q hq
  rcases List.mem_cons.mp hq with rfl | hq
  · exact rz_callVN (cn_X0_takesPlan l) (by decide +kernel) ⟨Nat.le_of_ble_eq_true rfl, Nat.le_of_ble_eq_true rfl⟩ m_X0_takesPlan rfl i_X0_takesPlan v_X0_takesPlan rv_X0_takesPlan n_X6_143
  rcases List.mem_cons.mp hq with rfl | hq
  · exact rz_callVN (cn_X0_addPlan l) (by decide +kernel) ⟨Nat.le_of_ble_eq_true rfl, Nat.le_of_ble_eq_true rfl⟩ m_X0_addPlan rfl i_X0_addPlan v_X0_addPlan rv_X0_addPlan n_X6_146
  exact absurd hq List.not_mem_nil) r_X6_plan vc_X6_plan
def ce_X6_in : rz_K := (2, 0 :: kBo, 0, false, fun av w => ∃ (pb pl pe pt lp im : Nat → Int32) (nw pn b : Int32) (n : Nat), av = [.ref 0, .int b] ∧ w = (0, oCW nw) :: wBo pb pl pe pt lp im pn (nI n) ∧ n ≤ 30, fun av w o w' => ∀ n : Nat, rF w 37 7 = nI n → n ≤ 30 → if okS (rA av 1) n ∧ rI w 43 (rA av 1).toNatClampNeg = -1 then rR o = 1 ∧ w' = rz_set w 43 (ri 30 (upd (rI w 43) (rA av 1).toNatClampNeg (rF w 0 6))) else rR o = 0 ∧ w' = w)
def cl_X6_in : List (Nat × rz_K) := []
def cv_X6_in : List (Nat × rz_K) := [(150, ce_X0_hasBoat), (153, ce_X0_isIn)]
theorem vc_X6_in : rz_VC k_X6_in fl_X6 cl_X6_in cv_X6_in s_X6_in true 2 ce_X6_in := by
  intro av w hlen hk hpre
  obtain ⟨pb, pl, pe, pt, lp, im, nw, pn, b, n, rfl, rfl, hn⟩ := hpre
  refine ⟨Nat.le_of_ble_eq_true rfl, [], 60, 0, fun q h => absurd h List.not_mem_nil, ?_⟩
  have no : ¬ (okS b n ∧ im b.toNatClampNeg = -1) → ce_X6_in.2.2.2.2.2 [.ref 0, .int b] ((0, oCW nw) :: wBo pb pl pe pt lp im pn (nI n)) (some (.int 0)) ((0, oCW nw) :: wBo pb pl pe pt lp im pn (nI n)) := by
    intro z1 n' e1 h1
    have e1 : n = n' := nI_inj (by omega) (by omega) e1
    subst e1
    exact if_no z1 ⟨rfl, rfl⟩
  conv => whnf
  refine ⟨⟨pb, pl, pe, pt, lp, im, pn, nI n, b, rfl, rfl, trivial⟩, ?_⟩
  intro r hr
  obtain rfl : r = bI (okS b n) := hr
  conv => whnf
  refine ⟨fun h1 => ?_, fun h1 => ?_⟩
  · exact ⟨Or.inl rfl, ⟨_, rfl⟩, fun z => (by cases z), no (fun z => bI_0 h1 z.1)⟩
  · have hv := okS_vp (bI_n h1) hn (by omega)
    conv => whnf
    refine ⟨⟨pb, pl, pe, pt, lp, im, pn, nI n, b, rfl, rfl, hv⟩, ?_⟩
    intro r hr
    obtain rfl : r = bI (¬ im b.toNatClampNeg = -1) := hr
    conv => whnf
    refine ⟨fun h2 => ?_, fun h2 => ?_⟩
    · conv => whnf
      refine ⟨hv, ?_⟩
      conv => whnf
      refine ⟨Or.inr rfl, ⟨_, rfl⟩, fun z => (by cases z), ?_⟩
      intro n' e1 g1
      have e1 : n = n' := nI_inj (by omega) (by omega) e1
      subst e1
      exact if_yes ⟨bI_n h1, Decidable.not_not.mp (bI_0 h2)⟩ ⟨rfl, rfl⟩
    · exact ⟨Or.inl rfl, ⟨_, rfl⟩, fun z => (by cases z), no (fun z => bI_n h2 z.2)⟩
theorem rv_X6_in : rz_Rv yX6_in.cls ce_X6_in := fun av w h => by
  obtain ⟨_, _, _, _, _, _, _, _, _, _, rfl, rfl, _⟩ := h
  exact ⟨_, _, _, _, _, _, rfl, rfl, rfl⟩
theorem cn_X6_in (l : Launch) : rz_Con l yX6_in cX6_in 2 (some .boolean) 2 0 0 ce_X6_in := rz_con (by decide +kernel) fo_X6 (fun _ h => absurd h List.not_mem_nil) (by
  intro q hq
  rcases List.mem_cons.mp hq with rfl | hq
  · exact rz_callVN (cn_X0_hasBoat l) (by decide +kernel) ⟨Nat.le_of_ble_eq_true rfl, Nat.le_of_ble_eq_true rfl⟩ m_X0_hasBoat rfl i_X0_hasBoat v_X0_hasBoat rv_X0_hasBoat n_X6_150
  rcases List.mem_cons.mp hq with rfl | hq
  · exact rz_callVN (cn_X0_isIn l) (by decide +kernel) ⟨Nat.le_of_ble_eq_true rfl, Nat.le_of_ble_eq_true rfl⟩ m_X0_isIn rfl i_X0_isIn v_X0_isIn rv_X0_isIn n_X6_153
  exact absurd hq List.not_mem_nil) r_X6_in vc_X6_in
def ce_X6_boat : rz_K := (4, 0 :: kBo, 0, true, fun av w => ∃ (pb pl pe pt lp im : Nat → Int32) (nw b m q : Int32) (k n : Nat), av = [.ref 0, .int b, .int m, .int q] ∧ w = (0, oCW nw) :: wBo pb pl pe pt lp im (nI k) (nI n) ∧ k ≤ 100 ∧ n ≤ 30, fun av w o _ => ∀ k n : Nat, rF w 37 6 = nI k → k ≤ 100 → rF w 37 7 = nI n → n ≤ 30 → rR o = if okS (rA av 1) n ∧ (0 ≤ rA av 2 ∧ rA av 2 ≤ rF w 0 6) ∧ (0 ≤ rA av 3 ∧ rA av 3 ≤ rF w 0 6) then stF (lastK (pkP (rI w 38) (rI w 41) (rA av 1) (rA av 3)) k) (rI w 43 (rA av 1).toNatClampNeg) (rA av 2) (rA av 3) (rI w 39) (rI w 40) else -1)
def cl_X6_boat : List (Nat × rz_K) := [(59, ce_X6_isWithin)]
def cv_X6_boat : List (Nat × rz_K) := [(150, ce_X0_hasBoat), (159, ce_X0_stateOf)]
theorem vc_X6_boat : rz_VC k_X6_boat fl_X6 cl_X6_boat cv_X6_boat s_X6_boat false 4 ce_X6_boat := by
  intro av w hlen hk hpre
  obtain ⟨pb, pl, pe, pt, lp, im, nw, b, m, q, k, n, rfl, rfl, hk2, hn⟩ := hpre
  refine ⟨Nat.le_of_ble_eq_true rfl, [], 60, 0, fun q h => absurd h List.not_mem_nil, ?_⟩
  have fin : ∀ v : Int32, (v = if okS b n ∧ (0 ≤ m ∧ m ≤ nw) ∧ (0 ≤ q ∧ q ≤ nw) then stF (lastK (pkP pb pt b q) k) (im b.toNatClampNeg) m q pl pe else -1) → rz_end ce_X6_boat [.ref 0, .int b, .int m, .int q] ((0, oCW nw) :: wBo pb pl pe pt lp im (nI k) (nI n)) (some (.int v)) ((0, oCW nw) :: wBo pb pl pe pt lp im (nI k) (nI n)) := by
    intro v hv
    refine ⟨⟨_, rfl⟩, fun _ => rfl, ?_⟩
    intro k' n' e1 h1 e2 h2
    have e1 : k = k' := nI_inj (by omega) (by omega) e1
    have e2 : n = n' := nI_inj (by omega) (by omega) e2
    subst e1 e2
    exact hv
  conv => whnf
  refine ⟨⟨pb, pl, pe, pt, lp, im, nI k, nI n, b, rfl, rfl, trivial⟩, ?_⟩
  intro r hr
  obtain rfl : r = bI (okS b n) := hr
  conv => whnf
  refine ⟨fun h1 => ?_, fun h1 => ?_⟩
  · exact fin _ (if_neg (fun z => bI_0 h1 z.1)).symm
  · conv => whnf
    refine ⟨⟨_, _, _, rfl, rfl, trivial⟩, ?_⟩
    intro r hr
    obtain rfl : r = bI (0 ≤ m ∧ m ≤ nw) := hr
    conv => whnf
    refine ⟨fun h2 => ?_, fun h2 => ?_⟩
    · exact fin _ (if_neg (fun z => bI_0 h2 z.2.1)).symm
    · conv => whnf
      refine ⟨⟨_, _, _, rfl, rfl, trivial⟩, ?_⟩
      intro r hr
      obtain rfl : r = bI (0 ≤ q ∧ q ≤ nw) := hr
      conv => whnf
      refine ⟨fun h3 => ?_, fun h3 => ?_⟩
      · exact fin _ (if_neg (fun z => bI_0 h3 z.2.2)).symm
      · conv => whnf
        refine ⟨⟨pb, pl, pe, pt, lp, im, nI n, b, m, q, k, rfl, rfl, hk2, okS_vp (bI_n h1) hn (by omega)⟩, ?_⟩
        intro r hr
        obtain rfl : r = stF (lastK (pkP pb pt b q) k) (im b.toNatClampNeg) m q pl pe := hr k rfl hk2
        conv => whnf
        exact fin _ (if_pos ⟨bI_n h1, bI_n h2, bI_n h3⟩).symm
theorem rv_X6_boat : rz_Rv yX6_boat.cls ce_X6_boat := fun av w h => by
  obtain ⟨_, _, _, _, _, _, _, _, _, _, _, _, rfl, rfl, _⟩ := h
  exact ⟨_, _, _, _, _, _, rfl, rfl, rfl⟩
theorem cn_X6_boat (l : Launch) : rz_Con l yX6_boat cX6_boat 4 (some .int) 2 0 0 ce_X6_boat := rz_con (by decide +kernel) fo_X6 (by
  intro q hq
  rcases List.mem_cons.mp hq with rfl | hq
  · exact rz_callS (cn_X6_isWithin l) (by decide +kernel) ⟨Nat.le_of_ble_eq_true rfl, Nat.le_of_ble_eq_true rfl⟩ m_X6_isWithin t_X6_isWithin n_X6_59
  exact absurd hq List.not_mem_nil) (by
  intro q hq
  rcases List.mem_cons.mp hq with rfl | hq
  · exact rz_callVN (cn_X0_hasBoat l) (by decide +kernel) ⟨Nat.le_of_ble_eq_true rfl, Nat.le_of_ble_eq_true rfl⟩ m_X0_hasBoat rfl i_X0_hasBoat v_X0_hasBoat rv_X0_hasBoat n_X6_150
  rcases List.mem_cons.mp hq with rfl | hq
  · exact rz_callVN (cn_X0_stateOf l) (by decide +kernel) ⟨Nat.le_of_ble_eq_true rfl, Nat.le_of_ble_eq_true rfl⟩ m_X0_stateOf rfl i_X0_stateOf v_X0_stateOf rv_X0_stateOf n_X6_159
  exact absurd hq List.not_mem_nil) r_X6_boat vc_X6_boat
abbrev okR (k m : Int32) : Prop := (0 ≤ k ∧ k ≤ 4) ∧ -1 ≤ m ∧ m ≤ 2000
def ce_X6_call : rz_K := (3, 0 :: kCl, 0, false, fun av w => ∃ (de lb lr lm : Nat → Int32) (nw wr k m : Int32), av = [.ref 0, .int k, .int m] ∧ w = (0, oCW nw) :: wCl de lb lr lm wr ∧ True, fun av w o w' => if okR (rA av 1) (rA av 2) then rR o = 1 ∧ w' = rz_set w 45 (ri 5 (upd (rI w 45) (rA av 1).toNatClampNeg (rA av 2))) else rR o = 0 ∧ w' = w)
def cl_X6_call : List (Nat × rz_K) := [(59, ce_X6_isWithin)]
def cv_X6_call : List (Nat × rz_K) := []
theorem vc_X6_call : rz_VC k_X6_call fl_X6 cl_X6_call cv_X6_call s_X6_call true 3 ce_X6_call := by
  intro av w hlen hk hpre
  obtain ⟨de, lb, lr, lm, nw, wr, k, m, rfl, rfl, -⟩ := hpre
  refine ⟨Nat.le_of_ble_eq_true rfl, [], 60, 0, fun q h => absurd h List.not_mem_nil, ?_⟩
  conv => whnf
  refine ⟨⟨_, _, _, rfl, rfl, trivial⟩, ?_⟩
  intro r hr
  obtain rfl : r = bI (0 ≤ k ∧ k ≤ 4) := hr
  conv => whnf
  refine ⟨fun h1 => ?_, fun h1 => ?_⟩
  · exact ⟨Or.inl rfl, ⟨_, rfl⟩, fun z => (by cases z), if_no (fun z => bI_0 h1 z.1) ⟨rfl, rfl⟩⟩
  · conv => whnf
    refine ⟨⟨_, _, _, rfl, rfl, trivial⟩, ?_⟩
    intro r hr
    obtain rfl : r = bI (-1 ≤ m ∧ m ≤ 2000) := hr
    conv => whnf
    refine ⟨fun h2 => ?_, fun h2 => ?_⟩
    · exact ⟨Or.inl rfl, ⟨_, rfl⟩, fun z => (by cases z), if_no (fun z => bI_0 h2 z.2) ⟨rfl, rfl⟩⟩
    · conv => whnf
      refine ⟨vp_of2 (bI_n h1).1 (bI_n h1).2 rfl, ?_⟩
      conv => whnf
      exact ⟨Or.inr rfl, ⟨_, rfl⟩, fun z => (by cases z), if_yes ⟨bI_n h1, bI_n h2⟩ ⟨rfl, rfl⟩⟩
theorem rv_X6_call : rz_Rv yX6_call.cls ce_X6_call := fun av w h => by
  obtain ⟨_, _, _, _, _, _, _, _, rfl, rfl, _⟩ := h
  exact ⟨_, _, _, _, _, _, rfl, rfl, rfl⟩
theorem cn_X6_call (l : Launch) : rz_Con l yX6_call cX6_call 3 (some .boolean) 1 0 0 ce_X6_call := rz_con (by decide +kernel) fo_X6 (by
  intro q hq
  rcases List.mem_cons.mp hq with rfl | hq
  · exact rz_callS (cn_X6_isWithin l) (by decide +kernel) ⟨Nat.le_of_ble_eq_true rfl, Nat.le_of_ble_eq_true rfl⟩ m_X6_isWithin t_X6_isWithin n_X6_59
  exact absurd hq List.not_mem_nil) (fun _ h => absurd h List.not_mem_nil) r_X6_call vc_X6_call
abbrev okN (n nw : Int32) : Prop := (0 ≤ n ∧ n ≤ 3000) ∧ nw + n ≤ 20000
def ce_X6_step : rz_K := (2, 0 :: kCB, 0, false, fun av w => ∃ (de : Nat → Int32) (s : LgS) (pb pl pe pt lp im : Nat → Int32) (nw pn x : Int32) (n : Nat), av = [.ref 0, .int x] ∧ w = (0, oCW nw) :: wCBs de s pb pl pe pt lp im pn (nI n) ∧ n ≤ 30 ∧ (∀ b, b < n → vp_in (lp b) 100) ∧ s.2.2.2 < 2 ^ 28, fun av w o w' => ∀ n q : Nat, rF w 37 7 = nI n → n ≤ 30 → rF w 44 4 = nI q → q < 2 ^ 28 → if okN (rA av 1) (rF w 0 6) then rR o = rF w 0 6 + rA av 1 ∧ w' = sLS (rz_set w 0 (oCW (rF w 0 6 + rA av 1))) (wsF (cmJ (rI w 45) (rI w 40) (rI w 42) (rI w 43)) n (rF w 0 6 + rA av 1) 150 (nxF (cmJ (rI w 45) (rI w 40) (rI w 42) (rI w 43)) (rF w 0 6) (5 * n)) (rLS w q)) else rR o = -1 ∧ w' = w)
def cl_X6_step : List (Nat × rz_K) := [(59, ce_X6_isWithin)]
def cv_X6_step : List (Nat × rz_K) := [(165, ce_X1_writeMinutes)]
theorem vc_X6_step : rz_VC k_X6_step fl_X6 cl_X6_step cv_X6_step s_X6_step false 2 ce_X6_step := by
  intro av w hlen hk hpre
  obtain ⟨de, s, pb, pl, pe, pt, lp, im, nw, pn, x, n, rfl, rfl, hn, hlp, hs⟩ := hpre
  refine ⟨Nat.le_of_ble_eq_true rfl, [], 60, 0, fun q h => absurd h List.not_mem_nil, ?_⟩
  have no : ¬ okN x nw → rz_end ce_X6_step [.ref 0, .int x] ((0, oCW nw) :: wCBs de s pb pl pe pt lp im pn (nI n)) (some (.int (-1))) ((0, oCW nw) :: wCBs de s pb pl pe pt lp im pn (nI n)) := by
    intro z1
    refine ⟨⟨_, rfl⟩, fun z => (by cases z), ?_⟩
    intro n' q e1 h1 e2 h2
    exact if_no z1 ⟨rfl, rfl⟩
  conv => whnf
  refine ⟨⟨_, _, _, rfl, rfl, trivial⟩, ?_⟩
  intro r hr
  obtain rfl : r = bI (0 ≤ x ∧ x ≤ 3000) := hr
  conv => whnf
  refine ⟨fun h1 => ?_, fun h1 => ?_⟩
  · exact no (fun z => bI_0 h1 z.1)
  · conv => whnf
    refine ⟨fun h2 => ?_, fun h2 => ?_⟩
    · conv => whnf
      refine ⟨⟨de, s, pb, pl, pe, pt, lp, im, pn, nw, nw + x, n, rfl, rfl, hn, hlp, hs⟩, ?_⟩
      intro wc hwc
      have hwc := hwc n s.2.2.2 rfl hn rfl hs
      subst hwc
      conv => whnf
      refine ⟨⟨_, rfl⟩, fun z => (by cases z), ?_⟩
      intro n' q e1 g1 e2 g2
      have e1 : n = n' := nI_inj (by omega) (by omega) e1
      have e2 : s.2.2.2 = q := nI_inj (by omega) (by omega) e2
      subst e1 e2
      exact if_yes ⟨bI_n h1, h2⟩ ⟨rfl, rfl⟩
    · exact no (fun z => h2 z.2)
theorem rv_X6_step : rz_Rv yX6_step.cls ce_X6_step := fun av w h => by
  obtain ⟨_, _, _, _, _, _, _, _, _, _, _, _, rfl, rfl, _⟩ := h
  exact ⟨_, _, _, _, _, _, rfl, rfl, rfl⟩
theorem cn_X6_step (l : Launch) : rz_Con l yX6_step cX6_step 2 (some .int) 4 0 0 ce_X6_step := rz_con (by decide +kernel) fo_X6 (by
  intro q hq
  rcases List.mem_cons.mp hq with rfl | hq
  · exact rz_callS (cn_X6_isWithin l) (by decide +kernel) ⟨Nat.le_of_ble_eq_true rfl, Nat.le_of_ble_eq_true rfl⟩ m_X6_isWithin t_X6_isWithin n_X6_59
  exact absurd hq List.not_mem_nil) (by
  intro q hq
  rcases List.mem_cons.mp hq with rfl | hq
  · exact rz_callVN (cn_X1_writeMinutes l) (by decide +kernel) ⟨Nat.le_of_ble_eq_true rfl, Nat.le_of_ble_eq_true rfl⟩ m_X1_writeMinutes rfl i_X1_writeMinutes v_X1_writeMinutes rv_X1_writeMinutes n_X6_165
  exact absurd hq List.not_mem_nil) r_X6_step vc_X6_step
def ce_X6_log : rz_K := (3, 0 :: kCl, 0, true, fun av w => ∃ (de : Nat → Int32) (s : LgS) (nw i a : Int32), av = [.ref 0, .int i, .int a] ∧ w = (0, oCW nw) :: wLg de s ∧ s.2.2.2 < 2 ^ 30, fun av w o _ => ∀ q : Nat, rF w 44 4 = nI q → q < 2 ^ 30 → rR o = if okL (rA av 1) q then (if rA av 2 = 0 then rI w 46 (rA av 1).toNatClampNeg else if rA av 2 = 1 then rI w 47 (rA av 1).toNatClampNeg else if rA av 2 = 2 then rI w 48 (rA av 1).toNatClampNeg else -1) else -1)
def cl_X6_log : List (Nat × rz_K) := []
def cv_X6_log : List (Nat × rz_K) := [(169, ce_X1_partOf)]
theorem vc_X6_log : rz_VC k_X6_log fl_X6 cl_X6_log cv_X6_log s_X6_log false 3 ce_X6_log := by
  intro av w hlen hk hpre
  obtain ⟨de, s, nw, i, a, rfl, rfl, hq⟩ := hpre
  refine ⟨Nat.le_of_ble_eq_true rfl, [], 60, 0, fun q h => absurd h List.not_mem_nil, ?_⟩
  conv => whnf
  refine ⟨⟨de, s, i, a, rfl, rfl, hq⟩, ?_⟩
  intro r hr
  conv => whnf
  exact ⟨⟨_, rfl⟩, fun _ => rfl, hr⟩
theorem rv_X6_log : rz_Rv yX6_log.cls ce_X6_log := fun av w h => by
  obtain ⟨_, _, _, _, _, rfl, rfl, _⟩ := h
  exact ⟨_, _, _, _, _, _, rfl, rfl, rfl⟩
theorem cn_X6_log (l : Launch) : rz_Con l yX6_log cX6_log 3 (some .int) 2 0 0 ce_X6_log := rz_con (by decide +kernel) fo_X6 (fun _ h => absurd h List.not_mem_nil) (by
  intro q hq
  rcases List.mem_cons.mp hq with rfl | hq
  · exact rz_callVN (cn_X1_partOf l) (by decide +kernel) ⟨Nat.le_of_ble_eq_true rfl, Nat.le_of_ble_eq_true rfl⟩ m_X1_partOf rfl i_X1_partOf v_X1_partOf rv_X1_partOf n_X6_169
  exact absurd hq List.not_mem_nil) r_X6_log vc_X6_log
abbrev wCn (nw : Int32) (po re si : Int32) (sz tr sp : Int32) (wr : Int32) (pb pl pe pt lp im : Nat → Int32) (pn bo : Int32) : rz_W := (0, oCW nw) :: (1, ro 2 [.ref 2, .ref 3, .ref 4, .ref 5, .ref 6, .ref 7, .ref 8, .int po, .int re]) :: (9, ro 5 [.ref 10, .ref 11, .ref 12, .ref 13, .ref 14, .ref 15, .ref 16, .int si]) :: (27, ro 3 [.ref 28, .ref 29, .ref 30, .ref 31, .ref 32, .ref 33, .ref 34, .ref 35, .ref 36, .int sz, .int tr, .int sp]) :: (44, ro 1 [.ref 45, .ref 46, .ref 47, .ref 48, .int wr]) :: wBo pb pl pe pt lp im pn bo
def ce_X6_count : rz_K := (2, 0 :: 1 :: 9 :: 27 :: 44 :: kBo, 0, true, fun av w => ∃ (nw po re si sz tr sp wr : Int32) (pb pl pe pt lp im : Nat → Int32) (pn a : Int32) (n : Nat), av = [.ref 0, .int a] ∧ w = wCn nw po re si sz tr sp wr pb pl pe pt lp im pn (nI n) ∧ n ≤ 30 ∧ ∀ b, b < n → vp_in (lp b) 100, fun av w o _ => ∀ n : Nat, rF w 37 7 = nI n → n ≤ 30 → rR o = if rA av 1 = 0 then rF w 0 6 else if rA av 1 = 1 then rF w 1 7 else if rA av 1 = 2 then rF w 1 8 else if rA av 1 = 3 then rF w 9 7 else if rA av 1 = 4 then rF w 27 9 else if rA av 1 = 5 then rF w 27 10 else if rA av 1 = 6 then nI n else if rA av 1 = 7 then rF w 44 4 else if rA av 1 = 8 then cntB (ovP (rI w 40) (rI w 42) (rI w 43) (rF w 0 6)) n else -1)
def cl_X6_count : List (Nat × rz_K) := []
def cv_X6_count : List (Nat × rz_K) := [(187, ce_X0_overdueAt)]
theorem vc_X6_count : rz_VC k_X6_count fl_X6 cl_X6_count cv_X6_count s_X6_count false 2 ce_X6_count := by
  intro av w hlen hk hpre
  obtain ⟨nw, po, re, si, sz, tr, sp, wr, pb, pl, pe, pt, lp, im, pn, a, n, rfl, rfl, hn, hlp⟩ := hpre
  refine ⟨Nat.le_of_ble_eq_true rfl, [], 60, 0, fun q h => absurd h List.not_mem_nil, ?_⟩
  have fin : ∀ v : Int32, (v = if a = 0 then nw else if a = 1 then po else if a = 2 then re else if a = 3 then si else if a = 4 then sz else if a = 5 then tr else if a = 6 then nI n else if a = 7 then wr else if a = 8 then cntB (ovP pe lp im nw) n else -1) → rz_end ce_X6_count [.ref 0, .int a] (wCn nw po re si sz tr sp wr pb pl pe pt lp im pn (nI n)) (some (.int v)) (wCn nw po re si sz tr sp wr pb pl pe pt lp im pn (nI n)) := by
    intro v hv
    refine ⟨⟨_, rfl⟩, fun _ => rfl, ?_⟩
    intro n' e1 g1
    have e1 : n = n' := nI_inj (by omega) (by omega) e1
    subst e1
    exact hv
  conv => whnf
  refine ⟨fun h0 => ?_, fun h0 => ?_⟩
  · exact fin _ (by rw [if_pos h0])
  · conv => whnf
    refine ⟨fun h1 => ?_, fun h1 => ?_⟩
    · exact fin _ (by rw [if_neg h0, if_pos h1])
    · conv => whnf
      refine ⟨fun h2 => ?_, fun h2 => ?_⟩
      · exact fin _ (by rw [if_neg h0, if_neg h1, if_pos h2])
      · conv => whnf
        refine ⟨fun h3 => ?_, fun h3 => ?_⟩
        · exact fin _ (by rw [if_neg h0, if_neg h1, if_neg h2, if_pos h3])
        · conv => whnf
          refine ⟨fun h4 => ?_, fun h4 => ?_⟩
          · exact fin _ (by rw [if_neg h0, if_neg h1, if_neg h2, if_neg h3, if_pos h4])
          · conv => whnf
            refine ⟨fun h5 => ?_, fun h5 => ?_⟩
            · exact fin _ (by rw [if_neg h0, if_neg h1, if_neg h2, if_neg h3, if_neg h4, if_pos h5])
            · conv => whnf
              refine ⟨fun h6 => ?_, fun h6 => ?_⟩
              · exact fin _ (by rw [if_neg h0, if_neg h1, if_neg h2, if_neg h3, if_neg h4, if_neg h5, if_pos h6])
              · conv => whnf
                refine ⟨fun h7 => ?_, fun h7 => ?_⟩
                · exact fin _ (by rw [if_neg h0, if_neg h1, if_neg h2, if_neg h3, if_neg h4, if_neg h5, if_neg h6, if_pos h7])
                · conv => whnf
                  refine ⟨fun h8 => ?_, fun h8 => ?_⟩
                  · conv => whnf
                    refine ⟨⟨pb, pl, pe, pt, lp, im, pn, nw, n, rfl, rfl, hn, hlp⟩, ?_⟩
                    intro r hr
                    obtain rfl : r = cntB (ovP pe lp im nw) n := hr n rfl hn
                    conv => whnf
                    exact fin _ (by rw [if_neg h0, if_neg h1, if_neg h2, if_neg h3, if_neg h4, if_neg h5, if_neg h6, if_neg h7, if_pos h8])
                  · exact fin _ (by rw [if_neg h0, if_neg h1, if_neg h2, if_neg h3, if_neg h4, if_neg h5, if_neg h6, if_neg h7, if_neg h8])
theorem rv_X6_count : rz_Rv yX6_count.cls ce_X6_count := fun av w h => by
  obtain ⟨_, _, _, _, _, _, _, _, _, _, _, _, _, _, _, _, _, rfl, rfl, _⟩ := h
  exact ⟨_, _, _, _, _, _, rfl, rfl, rfl⟩
theorem cn_X6_count (l : Launch) : rz_Con l yX6_count cX6_count 2 (some .int) 2 0 0 ce_X6_count := rz_con (by decide +kernel) fo_X6 (fun _ h => absurd h List.not_mem_nil) (by
  intro q hq
  rcases List.mem_cons.mp hq with rfl | hq
  · exact rz_callVN (cn_X0_overdueAt l) (by decide +kernel) ⟨Nat.le_of_ble_eq_true rfl, Nat.le_of_ble_eq_true rfl⟩ m_X0_overdueAt rfl i_X0_overdueAt v_X0_overdueAt rv_X0_overdueAt n_X6_187
  exact absurd hq List.not_mem_nil) r_X6_count vc_X6_count
end
section
/-! The reference's boats. -/
abbrev wMp (o : rz_C) (pa : Nat → Int32) : rz_W := [(50, o), (61, ri 500 pa)]
abbrev kMp : List Nat := [50, 61]
abbrev wMb (o : rz_C) (pa ci : Nat → Int32) : rz_W := [(50, o), (61, ri 500 pa), (62, ri 30 ci)]
abbrev kMb : List Nat := [50, 61, 62]
abbrev mB (pa : Nat → Int32) (a : Nat) : Nat → Int32 := fun i => pa (5 * i + a)
abbrev mE (pa : Nat → Int32) : Nat → Int32 := fun i => pa (5 * i + 3) + pa (5 * i + 4)
def ce_X7_ofPlan : rz_K := (3, kMp, 0, true, fun av w => ∃ (pa : Nat → Int32) (th po re nw si pl tr bo pn ca sp co : Int32) (i a : Nat), av = [.ref 50, .int (nI i), .int (nI a)] ∧ w = wMp (oMo th po re nw si pl tr bo pn ca sp co) pa ∧ i < 100 ∧ a < 5, fun av w o _ => ∀ i a : Nat, rA av 1 = nI i → rA av 2 = nI a → i < 100 → a < 5 → rR o = rI w 61 (5 * i + a))
def cl_X7_ofPlan : List (Nat × rz_K) := []
def cv_X7_ofPlan : List (Nat × rz_K) := []
theorem vc_X7_ofPlan : rz_VC k_X7_ofPlan fl_X7 cl_X7_ofPlan cv_X7_ofPlan s_X7_ofPlan false 3 ce_X7_ofPlan := by
  intro av w hlen hk hpre
  obtain ⟨pa, th, po, re, nw, si, pl, tr, bo, pn, ca, sp, co, i, a, rfl, rfl, hi, ha⟩ := hpre
  refine ⟨Nat.le_of_ble_eq_true rfl, [], 30, 0, fun q h => absurd h List.not_mem_nil, ?_⟩
  have e : (5 : Int32) * nI i + nI a = nI (5 * i + a) := by
    show nI 5 * nI i + nI a = _
    rw [pk_mul, nI_add]
  have hv : vp_in ((5 : Int32) * nI i + nI a) 500 := by rw [e]; exact vp_in_nI (by omega) (by omega)
  conv => whnf
  refine ⟨hv, ?_⟩
  conv => whnf
  refine ⟨⟨_, rfl⟩, fun _ => rfl, ?_⟩
  intro i' a' e1 e2 h1 h2
  have e1 : i = i' := nI_inj (by omega) (by omega) e1
  have e2 : a = a' := nI_inj (by omega) (by omega) e2
  subst e1 e2
  show pa ((5 : Int32) * nI i + nI a).toNatClampNeg = pa (5 * i + a)
  rw [e, nI_clamp (by omega)]
theorem rv_X7_ofPlan : rz_Rv yX7_ofPlan.cls ce_X7_ofPlan := fun av w h => by
  obtain ⟨_, _, _, _, _, _, _, _, _, _, _, _, _, _, _, rfl, rfl, _⟩ := h
  exact ⟨_, _, _, _, _, _, rfl, rfl, rfl⟩
theorem cn_X7_ofPlan (l : Launch) : rz_Con l yX7_ofPlan cX7_ofPlan 3 (some .int) 0 0 0 ce_X7_ofPlan := rz_con (by decide +kernel) fo_X7 (fun _ h => absurd h List.not_mem_nil) (fun _ h => absurd h List.not_mem_nil) r_X7_ofPlan vc_X7_ofPlan
def ce_X7_lastPlan : rz_K := (3, kMp, 0, true, fun av w => ∃ (pa : Nat → Int32) (th po re nw si pl tr bo ca sp co b q : Int32) (k : Nat), av = [.ref 50, .int b, .int q] ∧ w = wMp (oMo th po re nw si pl tr bo (nI k) ca sp co) pa ∧ k ≤ 100, fun av w o _ => ∀ k : Nat, rF w 50 14 = nI k → k ≤ 100 → rR o = lastK (pkP (mB (rI w 61) 0) (mB (rI w 61) 1) (rA av 1) (rA av 2)) k)
def cl_X7_lastPlan : List (Nat × rz_K) := []
def cv_X7_lastPlan : List (Nat × rz_K) := [(196, ce_X7_ofPlan)]
theorem vc_X7_lastPlan : rz_VC k_X7_lastPlan fl_X7 cl_X7_lastPlan cv_X7_lastPlan s_X7_lastPlan false 5 ce_X7_lastPlan := by
  intro av w hlen hk hpre
  obtain ⟨pa, th, po, re, nw, si, pl, tr, bo, ca, sp, co, b, q, k, rfl, rfl, hk2⟩ := hpre
  generalize hp : pkP (mB pa 0) (mB pa 1) b q = p
  have hp2 : ∀ i, p i = decide (pa (5 * i + 0) = b ∧ pa (5 * i + 1) ≤ q) := fun i => by rw [← hp]
  have hs : ∀ i, lastK p (i + 1) = if p i then nI i else lastK p i := fun _ => rfl
  refine ⟨Nat.le_of_ble_eq_true rfl, [(5, [0, 1, 2, 3, 4], fun z lv w' => ∃ i : Nat, i ≤ k ∧ lv = [(0, .ref 50), (1, .int b), (2, .int q), (3, .int (lastK p i)), (4, .int (nI i))] ∧ w' = wMp (oMo th po re nw si pl tr bo (nI k) ca sp co) pa ∧ z = k - i)], 60, k + 1, ?_, ?_⟩
  · intro y hq z lv w' hj
    rcases List.mem_cons.mp hq with rfl | hq
    · obtain ⟨i, hi, rfl, rfl, rfl⟩ := hj
      conv => whnf
      refine ⟨fun c => ?_, fun c => ?_⟩
      · have e : i = k := by
          have := (nI_leI (by omega) (by omega)).mp c
          omega
        subst e
        refine ⟨⟨_, rfl⟩, fun _ => rfl, ?_⟩
        intro k' e1 h1
        have e1 : i = k' := nI_inj (by omega) (by omega) e1
        subst e1
        rw [← hp]
        rfl
      · have hi2 : i < k := by
          rcases Nat.lt_or_ge i k with z | z
          · exact z
          · exact absurd (nI_le z (by omega)) c
        conv => whnf
        refine ⟨⟨pa, th, po, re, nw, si, pl, tr, bo, nI k, ca, sp, co, i, 0, rfl, rfl, by omega, by omega⟩, ?_⟩
        intro r hr
        have hr : r = pa (5 * i + 0) := hr i 0 rfl rfl (by omega) (by omega)
        subst hr
        conv => whnf
        refine ⟨fun c2 => ?_, fun c2 => ?_⟩
        · conv => whnf
          refine ⟨⟨pa, th, po, re, nw, si, pl, tr, bo, nI k, ca, sp, co, i, 1, rfl, rfl, by omega, by omega⟩, ?_⟩
          intro r hr
          have hr : r = pa (5 * i + 1) := hr i 1 rfl rfl (by omega) (by omega)
          subst hr
          conv => whnf
          refine ⟨fun c3 => ?_, fun c3 => ?_⟩
          · conv => whnf
            rintro _ rfl
            conv => whnf
            refine ⟨k - (i + 1), by omega, i + 1, by omega, ?_, rfl, rfl⟩
            show [_, _, _, (3, Value.int (lastK p i)), (4, Value.int (nI i + 1))] = _
            rw [nI_1, hs, hp2, if_neg (by simp only [decide_eq_true_eq]; exact fun y => absurd y.2 ((i32_not_le _ _).mpr c3))]
          · conv => whnf
            rintro _ rfl
            conv => whnf
            rintro _ rfl
            conv => whnf
            refine ⟨k - (i + 1), by omega, i + 1, by omega, ?_, rfl, rfl⟩
            show [_, _, _, (3, Value.int (nI i)), (4, Value.int (nI i + 1))] = _
            rw [nI_1, hs, hp2, if_pos (by simp only [decide_eq_true_eq]; exact ⟨c2, (i32_not_lt _ _).mp c3⟩)]
        · conv => whnf
          rintro _ rfl
          conv => whnf
          refine ⟨k - (i + 1), by omega, i + 1, by omega, ?_, rfl, rfl⟩
          show [_, _, _, (3, Value.int (lastK p i)), (4, Value.int (nI i + 1))] = _
          rw [nI_1, hs, hp2, if_neg (by simp only [decide_eq_true_eq]; exact fun y => c2 y.1)]
    · exact absurd hq List.not_mem_nil
  · conv => whnf
    rintro _ rfl
    conv => whnf
    rintro _ rfl
    conv => whnf
    refine ⟨k, by omega, 0, by omega, rfl, rfl, rfl⟩
theorem rv_X7_lastPlan : rz_Rv yX7_lastPlan.cls ce_X7_lastPlan := fun av w h => by
  obtain ⟨_, _, _, _, _, _, _, _, _, _, _, _, _, _, _, rfl, rfl, _⟩ := h
  exact ⟨_, _, _, _, _, _, rfl, rfl, rfl⟩
theorem cn_X7_lastPlan (l : Launch) : rz_Con l yX7_lastPlan cX7_lastPlan 5 (some .int) 1 0 0 ce_X7_lastPlan := rz_con (by decide +kernel) fo_X7 (fun _ h => absurd h List.not_mem_nil) (by
  intro q hq
  rcases List.mem_cons.mp hq with rfl | hq
  · exact rz_callV (cn_X7_ofPlan l) (by decide +kernel) ⟨Nat.le_of_ble_eq_true rfl, Nat.le_of_ble_eq_true rfl⟩ m_X7_ofPlan rfl i_X7_ofPlan v_X7_ofPlan rv_X7_ofPlan n_X7_196
  exact absurd hq List.not_mem_nil) r_X7_lastPlan vc_X7_lastPlan
def ce_X7_stands : rz_K := (4, kMb, 0, true, fun av w => ∃ (pa ci : Nat → Int32) (th po re nw si pl tr bo ca sp co b m q : Int32) (k : Nat), av = [.ref 50, .int b, .int m, .int q] ∧ w = wMb (oMo th po re nw si pl tr bo (nI k) ca sp co) pa ci ∧ k ≤ 100 ∧ vp_in b 30, fun av w o _ => ∀ k : Nat, rF w 50 14 = nI k → k ≤ 100 → rR o = stF (lastK (pkP (mB (rI w 61) 0) (mB (rI w 61) 1) (rA av 1) (rA av 3)) k) (rI w 62 (rA av 1).toNatClampNeg) (rA av 2) (rA av 3) (mB (rI w 61) 2) (mE (rI w 61)))
def cl_X7_stands : List (Nat × rz_K) := []
def cv_X7_stands : List (Nat × rz_K) := [(196, ce_X7_ofPlan), (199, ce_X7_lastPlan)]
theorem vc_X7_stands : rz_VC k_X7_stands fl_X7 cl_X7_stands cv_X7_stands s_X7_stands false 5 ce_X7_stands := by
  intro av w hlen hk hpre
  obtain ⟨pa, ci, th, po, re, nw, si, pl, tr, bo, ca, sp, co, b, m, q, k, rfl, rfl, hk2, hb⟩ := hpre
  refine ⟨Nat.le_of_ble_eq_true rfl, [], 90, 0, fun q h => absurd h List.not_mem_nil, ?_⟩
  generalize hJ : lastK (pkP (mB pa 0) (mB pa 1) b q) k = j
  have hj : ¬ j = -1 → ∃ i, i < 100 ∧ j = nI i := fun z => by
    rcases lastK_in (pkP (mB pa 0) (mB pa 1) b q) k (by omega) with y | ⟨i, y1, y2, y3⟩
    · exact absurd (hJ.symm.trans y) z
    · exact ⟨i, by omega, hJ.symm.trans y2⟩
  have fin : ∀ v : Int32, v = stF j (ci b.toNatClampNeg) m q (mB pa 2) (mE pa) → rz_end ce_X7_stands [.ref 50, .int b, .int m, .int q] (wMb (oMo th po re nw si pl tr bo (nI k) ca sp co) pa ci) (some (.int v)) (wMb (oMo th po re nw si pl tr bo (nI k) ca sp co) pa ci) := by
    intro v hv
    refine ⟨⟨_, rfl⟩, fun _ => rfl, ?_⟩
    intro k' e1 h1
    have e1 : k = k' := nI_inj (by omega) (by omega) e1
    subst e1
    rw [hv, ← hJ]
    rfl
  conv => whnf
  refine ⟨⟨pa, th, po, re, nw, si, pl, tr, bo, ca, sp, co, b, q, k, rfl, rfl, hk2⟩, ?_⟩
  intro r hr
  have hr : r = lastK (pkP (mB pa 0) (mB pa 1) b q) k := hr k rfl hk2
  rw [hJ] at hr
  subst hr
  conv => whnf
  intro v_ ev_
  have ev_ := ev_.symm
  subst ev_
  conv => whnf
  refine ⟨fun h => ?_, fun h => ?_⟩
  · refine fin _ ?_
    unfold stF
    rw [if_pos h]
  · obtain ⟨i, hi, rfl⟩ := hj h
    have go : ¬ (¬ ci b.toNatClampNeg = -1 ∧ ci b.toNatClampNeg ≤ m ∧ ci b.toNatClampNeg ≤ q) → stF (nI i) (ci b.toNatClampNeg) m q (mB pa 2) (mE pa) = if m < pa (5 * i + 2) then 1 else if m ≤ pa (5 * i + 3) + pa (5 * i + 4) then 2 else 3 := fun z => by
      unfold stF
      rw [if_neg h, if_neg z, nI_clamp (by omega)]
    have pln : ∀ (a : Nat) (x : Int32), a < 5 → ce_X7_ofPlan.2.2.2.2.2 [.ref 50, .int (nI i), .int (nI a)] (wMp (oMo th po re nw si pl tr bo (nI k) ca sp co) pa) (some (.int x)) (wMp (oMo th po re nw si pl tr bo (nI k) ca sp co) pa) → x = pa (5 * i + a) := fun a x ha hx => hx i a rfl rfl hi ha
    conv => whnf
    refine ⟨hb, ?_⟩
    conv => whnf
    refine ⟨fun h1 => ?_, fun h1 => ?_⟩
    · have z : ¬ (¬ ci b.toNatClampNeg = -1 ∧ ci b.toNatClampNeg ≤ m ∧ ci b.toNatClampNeg ≤ q) := fun y => y.1 h1
      conv => whnf
      refine ⟨⟨pa, th, po, re, nw, si, pl, tr, bo, nI k, ca, sp, co, i, 2, rfl, rfl, hi, by omega⟩, ?_⟩
      intro x2 hx2
      obtain rfl := pln 2 x2 (by omega) hx2
      conv => whnf
      refine ⟨fun g1 => ?_, fun g1 => ?_⟩
      · conv => whnf
        refine ⟨⟨pa, th, po, re, nw, si, pl, tr, bo, nI k, ca, sp, co, i, 3, rfl, rfl, hi, by omega⟩, ?_⟩
        intro x3 hx3
        obtain rfl := pln 3 x3 (by omega) hx3
        conv => whnf
        refine ⟨⟨pa, th, po, re, nw, si, pl, tr, bo, nI k, ca, sp, co, i, 4, rfl, rfl, hi, by omega⟩, ?_⟩
        intro x4 hx4
        obtain rfl := pln 4 x4 (by omega) hx4
        conv => whnf
        refine ⟨fun g2 => ?_, fun g2 => ?_⟩
        · exact fin _ (by rw [go z, if_neg ((i32_not_lt _ _).mpr g1), if_neg ((i32_not_le _ _).mpr g2)])
        · exact fin _ (by rw [go z, if_neg ((i32_not_lt _ _).mpr g1), if_pos ((i32_not_lt _ _).mp g2)])
      · exact fin _ (by rw [go z, if_pos ((i32_not_le _ _).mp g1)])
    · conv => whnf
      refine ⟨hb, ?_⟩
      conv => whnf
      refine ⟨fun h2 => ?_, fun h2 => ?_⟩
      · have z : ¬ (¬ ci b.toNatClampNeg = -1 ∧ ci b.toNatClampNeg ≤ m ∧ ci b.toNatClampNeg ≤ q) := fun y => absurd y.2.2 ((i32_not_le _ _).mpr h2)
        conv => whnf
        refine ⟨⟨pa, th, po, re, nw, si, pl, tr, bo, nI k, ca, sp, co, i, 2, rfl, rfl, hi, by omega⟩, ?_⟩
        intro x2 hx2
        obtain rfl := pln 2 x2 (by omega) hx2
        conv => whnf
        refine ⟨fun g1 => ?_, fun g1 => ?_⟩
        · conv => whnf
          refine ⟨⟨pa, th, po, re, nw, si, pl, tr, bo, nI k, ca, sp, co, i, 3, rfl, rfl, hi, by omega⟩, ?_⟩
          intro x3 hx3
          obtain rfl := pln 3 x3 (by omega) hx3
          conv => whnf
          refine ⟨⟨pa, th, po, re, nw, si, pl, tr, bo, nI k, ca, sp, co, i, 4, rfl, rfl, hi, by omega⟩, ?_⟩
          intro x4 hx4
          obtain rfl := pln 4 x4 (by omega) hx4
          conv => whnf
          refine ⟨fun g2 => ?_, fun g2 => ?_⟩
          · exact fin _ (by rw [go z, if_neg ((i32_not_lt _ _).mpr g1), if_neg ((i32_not_le _ _).mpr g2)])
          · exact fin _ (by rw [go z, if_neg ((i32_not_lt _ _).mpr g1), if_pos ((i32_not_lt _ _).mp g2)])
        · exact fin _ (by rw [go z, if_pos ((i32_not_le _ _).mp g1)])
      · conv => whnf
        refine ⟨hb, ?_⟩
        conv => whnf
        refine ⟨fun h3 => ?_, fun h3 => ?_⟩
        · have z : ¬ (¬ ci b.toNatClampNeg = -1 ∧ ci b.toNatClampNeg ≤ m ∧ ci b.toNatClampNeg ≤ q) := fun y => absurd y.2.1 ((i32_not_le _ _).mpr h3)
          conv => whnf
          refine ⟨⟨pa, th, po, re, nw, si, pl, tr, bo, nI k, ca, sp, co, i, 2, rfl, rfl, hi, by omega⟩, ?_⟩
          intro x2 hx2
          obtain rfl := pln 2 x2 (by omega) hx2
          conv => whnf
          refine ⟨fun g1 => ?_, fun g1 => ?_⟩
          · conv => whnf
            refine ⟨⟨pa, th, po, re, nw, si, pl, tr, bo, nI k, ca, sp, co, i, 3, rfl, rfl, hi, by omega⟩, ?_⟩
            intro x3 hx3
            obtain rfl := pln 3 x3 (by omega) hx3
            conv => whnf
            refine ⟨⟨pa, th, po, re, nw, si, pl, tr, bo, nI k, ca, sp, co, i, 4, rfl, rfl, hi, by omega⟩, ?_⟩
            intro x4 hx4
            obtain rfl := pln 4 x4 (by omega) hx4
            conv => whnf
            refine ⟨fun g2 => ?_, fun g2 => ?_⟩
            · exact fin _ (by rw [go z, if_neg ((i32_not_lt _ _).mpr g1), if_neg ((i32_not_le _ _).mpr g2)])
            · exact fin _ (by rw [go z, if_neg ((i32_not_lt _ _).mpr g1), if_pos ((i32_not_lt _ _).mp g2)])
          · exact fin _ (by rw [go z, if_pos ((i32_not_le _ _).mp g1)])
        · refine fin _ ?_
          unfold stF
          rw [if_neg h, if_pos ⟨h1, (i32_not_lt _ _).mp h3, (i32_not_lt _ _).mp h2⟩]
theorem rv_X7_stands : rz_Rv yX7_stands.cls ce_X7_stands := fun av w h => by
  obtain ⟨_, _, _, _, _, _, _, _, _, _, _, _, _, _, _, _, _, rfl, rfl, _⟩ := h
  exact ⟨_, _, _, _, _, _, rfl, rfl, rfl⟩
theorem cn_X7_stands (l : Launch) : rz_Con l yX7_stands cX7_stands 5 (some .int) 2 0 0 ce_X7_stands := rz_con (by decide +kernel) fo_X7 (fun _ h => absurd h List.not_mem_nil) (by
  intro q hq
  rcases List.mem_cons.mp hq with rfl | hq
  · exact rz_callV (cn_X7_ofPlan l) (by decide +kernel) ⟨Nat.le_of_ble_eq_true rfl, Nat.le_of_ble_eq_true rfl⟩ m_X7_ofPlan rfl i_X7_ofPlan v_X7_ofPlan rv_X7_ofPlan n_X7_196
  rcases List.mem_cons.mp hq with rfl | hq
  · exact rz_callV (cn_X7_lastPlan l) (by decide +kernel) ⟨Nat.le_of_ble_eq_true rfl, Nat.le_of_ble_eq_true rfl⟩ m_X7_lastPlan rfl i_X7_lastPlan v_X7_lastPlan rv_X7_lastPlan n_X7_199
  exact absurd hq List.not_mem_nil) r_X7_stands vc_X7_stands
end
section
/-! The reference's public methods on boats and calls. -/
def ce_X7_in : rz_K := (2, kMb, 0, false, fun av w => ∃ (pa ci : Nat → Int32) (th po re nw si pl tr pn ca sp co b : Int32) (n : Nat), av = [.ref 50, .int b] ∧ w = wMb (oMo th po re nw si pl tr (nI n) pn ca sp co) pa ci ∧ n ≤ 30, fun av w o w' => ∀ n : Nat, rF w 50 13 = nI n → n ≤ 30 → if okS (rA av 1) n ∧ rI w 62 (rA av 1).toNatClampNeg = -1 then rR o = 1 ∧ w' = rz_set (mset w 0 0) 62 (ri 30 (upd (rI w 62) (rA av 1).toNatClampNeg (rF w 50 9))) else rR o = 0 ∧ w' = mset w 0 0)
def cl_X7_in : List (Nat × rz_K) := [(87, ce_X7_isIn)]
def cv_X7_in : List (Nat × rz_K) := []
theorem vc_X7_in : rz_VC k_X7_in fl_X7 cl_X7_in cv_X7_in s_X7_in true 2 ce_X7_in := by
  intro av w hlen hk hpre
  obtain ⟨pa, ci, th, po, re, nw, si, pl, tr, pn, ca, sp, co, b, n, rfl, rfl, hn⟩ := hpre
  refine ⟨Nat.le_of_ble_eq_true rfl, [], 60, 0, fun q h => absurd h List.not_mem_nil, ?_⟩
  have no : ¬ (okS b n ∧ ci b.toNatClampNeg = -1) → ce_X7_in.2.2.2.2.2 [.ref 50, .int b] (wMb (oMo th po re nw si pl tr (nI n) pn ca sp co) pa ci) (some (.int 0)) (wMb (oMo 0 po re nw si pl tr (nI n) pn ca sp co) pa ci) := by
    intro z1 n' e1 h1
    have e1 : n = n' := nI_inj (by omega) (by omega) e1
    subst e1
    exact if_no z1 ⟨rfl, rfl⟩
  conv => whnf
  refine ⟨⟨_, _, _, rfl, rfl, trivial⟩, ?_⟩
  intro r hr
  obtain rfl : r = bI (okS b n) := hr
  conv => whnf
  refine ⟨fun h1 => ?_, fun h1 => ?_⟩
  · exact ⟨Or.inl rfl, ⟨_, rfl⟩, fun z => (by cases z), no (fun z => bI_0 h1 z.1)⟩
  · have hv := okS_vp (bI_n h1) hn (by omega)
    conv => whnf
    refine ⟨hv, ?_⟩
    conv => whnf
    refine ⟨fun h2 => ?_, fun h2 => ?_⟩
    · conv => whnf
      refine ⟨hv, ?_⟩
      conv => whnf
      refine ⟨Or.inr rfl, ⟨_, rfl⟩, fun z => (by cases z), ?_⟩
      intro n' e1 g1
      have e1 : n = n' := nI_inj (by omega) (by omega) e1
      subst e1
      exact if_yes ⟨bI_n h1, h2⟩ ⟨rfl, rfl⟩
    · exact ⟨Or.inl rfl, ⟨_, rfl⟩, fun z => (by cases z), no (fun z => h2 z.2)⟩
theorem rv_X7_in : rz_Rv yX7_in.cls ce_X7_in := fun av w h => by
  obtain ⟨_, _, _, _, _, _, _, _, _, _, _, _, _, _, _, rfl, rfl, _⟩ := h
  exact ⟨_, _, _, _, _, _, rfl, rfl, rfl⟩
theorem cn_X7_in (l : Launch) : rz_Con l yX7_in cX7_in 2 (some .boolean) 1 0 0 ce_X7_in := rz_con (by decide +kernel) fo_X7 (by
  intro q hq
  rcases List.mem_cons.mp hq with rfl | hq
  · exact rz_callS (cn_X7_isIn l) (by decide +kernel) ⟨Nat.le_of_ble_eq_true rfl, Nat.le_of_ble_eq_true rfl⟩ m_X7_isIn t_X7_isIn n_X7_87
  exact absurd hq List.not_mem_nil) (fun _ h => absurd h List.not_mem_nil) r_X7_in vc_X7_in
def ce_X7_boat : rz_K := (4, kMb, 0, false, fun av w => ∃ (pa ci : Nat → Int32) (th po re nw si pl tr ca sp co b m q : Int32) (k n : Nat), av = [.ref 50, .int b, .int m, .int q] ∧ w = wMb (oMo th po re nw si pl tr (nI n) (nI k) ca sp co) pa ci ∧ k ≤ 100 ∧ n ≤ 30, fun av w o w' => (∀ k n : Nat, rF w 50 14 = nI k → k ≤ 100 → rF w 50 13 = nI n → n ≤ 30 → rR o = if okS (rA av 1) n ∧ (0 ≤ rA av 2 ∧ rA av 2 ≤ rF w 50 9) ∧ (0 ≤ rA av 3 ∧ rA av 3 ≤ rF w 50 9) then stF (lastK (pkP (mB (rI w 61) 0) (mB (rI w 61) 1) (rA av 1) (rA av 3)) k) (rI w 62 (rA av 1).toNatClampNeg) (rA av 2) (rA av 3) (mB (rI w 61) 2) (mE (rI w 61)) else -1) ∧ w' = mset w 0 0)
def cl_X7_boat : List (Nat × rz_K) := [(87, ce_X7_isIn)]
def cv_X7_boat : List (Nat × rz_K) := [(202, ce_X7_stands)]
theorem vc_X7_boat : rz_VC k_X7_boat fl_X7 cl_X7_boat cv_X7_boat s_X7_boat false 4 ce_X7_boat := by
  intro av w hlen hk hpre
  obtain ⟨pa, ci, th, po, re, nw, si, pl, tr, ca, sp, co, b, m, q, k, n, rfl, rfl, hk2, hn⟩ := hpre
  refine ⟨Nat.le_of_ble_eq_true rfl, [], 60, 0, fun q h => absurd h List.not_mem_nil, ?_⟩
  have fin : ∀ v : Int32, (v = if okS b n ∧ (0 ≤ m ∧ m ≤ nw) ∧ (0 ≤ q ∧ q ≤ nw) then stF (lastK (pkP (mB pa 0) (mB pa 1) b q) k) (ci b.toNatClampNeg) m q (mB pa 2) (mE pa) else -1) → rz_end ce_X7_boat [.ref 50, .int b, .int m, .int q] (wMb (oMo th po re nw si pl tr (nI n) (nI k) ca sp co) pa ci) (some (.int v)) (wMb (oMo 0 po re nw si pl tr (nI n) (nI k) ca sp co) pa ci) := by
    intro v hv
    refine ⟨⟨_, rfl⟩, fun z => (by cases z), ?_, rfl⟩
    intro k' n' e1 h1 e2 h2
    have e1 : k = k' := nI_inj (by omega) (by omega) e1
    have e2 : n = n' := nI_inj (by omega) (by omega) e2
    subst e1 e2
    exact hv
  conv => whnf
  refine ⟨⟨_, _, _, rfl, rfl, trivial⟩, ?_⟩
  intro r hr
  obtain rfl : r = bI (okS b n) := hr
  conv => whnf
  refine ⟨fun h1 => ?_, fun h1 => ?_⟩
  · exact fin _ (if_neg (fun z => bI_0 h1 z.1)).symm
  · conv => whnf
    refine ⟨⟨_, _, _, rfl, rfl, trivial⟩, ?_⟩
    intro r hr
    obtain rfl : r = bI (0 ≤ m ∧ m ≤ nw) := hr
    conv => whnf
    refine ⟨fun h2 => ?_, fun h2 => ?_⟩
    · exact fin _ (if_neg (fun z => bI_0 h2 z.2.1)).symm
    · conv => whnf
      refine ⟨⟨_, _, _, rfl, rfl, trivial⟩, ?_⟩
      intro r hr
      obtain rfl : r = bI (0 ≤ q ∧ q ≤ nw) := hr
      conv => whnf
      refine ⟨fun h3 => ?_, fun h3 => ?_⟩
      · exact fin _ (if_neg (fun z => bI_0 h3 z.2.2)).symm
      · conv => whnf
        refine ⟨⟨pa, ci, 0, po, re, nw, si, pl, tr, nI n, ca, sp, co, b, m, q, k, rfl, rfl, hk2, okS_vp (bI_n h1) hn (by omega)⟩, ?_⟩
        intro r hr
        obtain rfl : r = stF (lastK (pkP (mB pa 0) (mB pa 1) b q) k) (ci b.toNatClampNeg) m q (mB pa 2) (mE pa) := hr k rfl hk2
        conv => whnf
        exact fin _ (if_pos ⟨bI_n h1, bI_n h2, bI_n h3⟩).symm
theorem rv_X7_boat : rz_Rv yX7_boat.cls ce_X7_boat := fun av w h => by
  obtain ⟨_, _, _, _, _, _, _, _, _, _, _, _, _, _, _, _, _, rfl, rfl, _⟩ := h
  exact ⟨_, _, _, _, _, _, rfl, rfl, rfl⟩
theorem cn_X7_boat (l : Launch) : rz_Con l yX7_boat cX7_boat 4 (some .int) 3 0 0 ce_X7_boat := rz_con (by decide +kernel) fo_X7 (by
  intro q hq
  rcases List.mem_cons.mp hq with rfl | hq
  · exact rz_callS (cn_X7_isIn l) (by decide +kernel) ⟨Nat.le_of_ble_eq_true rfl, Nat.le_of_ble_eq_true rfl⟩ m_X7_isIn t_X7_isIn n_X7_87
  exact absurd hq List.not_mem_nil) (by
  intro q hq
  rcases List.mem_cons.mp hq with rfl | hq
  · exact rz_callV (cn_X7_stands l) (by decide +kernel) ⟨Nat.le_of_ble_eq_true rfl, Nat.le_of_ble_eq_true rfl⟩ m_X7_stands rfl i_X7_stands v_X7_stands rv_X7_stands n_X7_202
  exact absurd hq List.not_mem_nil) r_X7_boat vc_X7_boat
abbrev wMr (o : rz_C) (ru : Nat → Int32) : rz_W := [(50, o), (63, ri 5 ru)]
theorem m1_le {m : Int32} : -1 ≤ m ↔ m = -1 ∨ 0 ≤ m := by
  rw [Int32.le_iff_toInt_le, Int32.le_iff_toInt_le, ← Int32.toInt_inj]
  have e1 : (-1 : Int32).toInt = -1 := rfl
  have e2 : (0 : Int32).toInt = 0 := rfl
  rw [e1, e2]
  omega
def ce_X7_call : rz_K := (3, [50, 63], 0, false, fun av w => ∃ (ru : Nat → Int32) (th po re nw si pl tr bo pn ca sp co k m : Int32), av = [.ref 50, .int k, .int m] ∧ w = wMr (oMo th po re nw si pl tr bo pn ca sp co) ru ∧ True, fun av w o w' => if okR (rA av 1) (rA av 2) then rR o = 1 ∧ w' = rz_set (mset w 0 0) 63 (ri 5 (upd (rI w 63) (rA av 1).toNatClampNeg (rA av 2))) else rR o = 0 ∧ w' = mset w 0 0)
def cl_X7_call : List (Nat × rz_K) := [(87, ce_X7_isIn)]
def cv_X7_call : List (Nat × rz_K) := []
theorem vc_X7_call : rz_VC k_X7_call fl_X7 cl_X7_call cv_X7_call s_X7_call true 3 ce_X7_call := by
  intro av w hlen hk hpre
  obtain ⟨ru, th, po, re, nw, si, pl, tr, bo, pn, ca, sp, co, k, m, rfl, rfl, -⟩ := hpre
  refine ⟨Nat.le_of_ble_eq_true rfl, [], 60, 0, fun q h => absurd h List.not_mem_nil, ?_⟩
  conv => whnf
  refine ⟨⟨_, _, _, rfl, rfl, trivial⟩, ?_⟩
  intro r hr
  obtain rfl : r = bI (0 ≤ k ∧ k ≤ 4) := hr
  conv => whnf
  refine ⟨fun h1 => ?_, fun h1 => ?_⟩
  · exact ⟨Or.inl rfl, ⟨_, rfl⟩, fun z => (by cases z), if_no (fun z => bI_0 h1 z.1) ⟨rfl, rfl⟩⟩
  · have hv : vp_in k 5 := vp_of2 (bI_n h1).1 (bI_n h1).2 rfl
    conv => whnf
    refine ⟨fun h2 => ?_, fun h2 => ?_⟩
    · have h2 : m = -1 := h2
      conv => whnf
      refine ⟨hv, ?_⟩
      conv => whnf
      exact ⟨Or.inr rfl, ⟨_, rfl⟩, fun z => (by cases z), if_yes ⟨bI_n h1, (by show (-1 : Int32) ≤ m; rw [h2]; decide), (by show m ≤ 2000; rw [h2]; decide)⟩ ⟨rfl, rfl⟩⟩
    · have h2 : ¬ m = -1 := h2
      conv => whnf
      refine ⟨⟨_, _, _, rfl, rfl, trivial⟩, ?_⟩
      intro r hr
      obtain rfl : r = bI (0 ≤ m ∧ m ≤ 2000) := hr
      conv => whnf
      refine ⟨fun h3 => ?_, fun h3 => ?_⟩
      · exact ⟨Or.inl rfl, ⟨_, rfl⟩, fun z => (by cases z), if_no (fun z => bI_0 h3 ⟨(m1_le.mp z.2.1).resolve_left h2, z.2.2⟩) ⟨rfl, rfl⟩⟩
      · conv => whnf
        refine ⟨hv, ?_⟩
        conv => whnf
        exact ⟨Or.inr rfl, ⟨_, rfl⟩, fun z => (by cases z), if_yes ⟨bI_n h1, m1_le.mpr (Or.inr (bI_n h3).1), (bI_n h3).2⟩ ⟨rfl, rfl⟩⟩
theorem rv_X7_call : rz_Rv yX7_call.cls ce_X7_call := fun av w h => by
  obtain ⟨_, _, _, _, _, _, _, _, _, _, _, _, _, _, _, rfl, rfl, _⟩ := h
  exact ⟨_, _, _, _, _, _, rfl, rfl, rfl⟩
theorem cn_X7_call (l : Launch) : rz_Con l yX7_call cX7_call 3 (some .boolean) 1 0 0 ce_X7_call := rz_con (by decide +kernel) fo_X7 (by
  intro q hq
  rcases List.mem_cons.mp hq with rfl | hq
  · exact rz_callS (cn_X7_isIn l) (by decide +kernel) ⟨Nat.le_of_ble_eq_true rfl, Nat.le_of_ble_eq_true rfl⟩ m_X7_isIn t_X7_isIn n_X7_87
  exact absurd hq List.not_mem_nil) (fun _ h => absurd h List.not_mem_nil) r_X7_call vc_X7_call
abbrev wMl (o : rz_C) (pa ci ru lb lr lm : Nat → Int32) : rz_W := [(50, o), (61, ri 500 pa), (62, ri 30 ci), (63, ri 5 ru), (64, ri 300 lb), (65, ri 300 lr), (66, ri 300 lm)]
abbrev kMl : List Nat := [50, 61, 62, 63, 64, 65, 66]
/-- the calls for one boat, by rules -/
def odF (ru : Nat → Int32) (since b m : Int32) (s : LgS) : Nat → LgS
  | 0 => s
  | r + 1 => if ru r = since then wlF (odF ru since b m s r) b (nI r) m else odF ru since b m s r
theorem odF_n (ru : Nat → Int32) (since b m : Int32) (s : LgS) : ∀ j, (odF ru since b m s j).2.2.2 ≤ s.2.2.2 + j
  | 0 => Nat.le_refl _
  | j + 1 => by
    have ih := odF_n ru since b m s j
    unfold odF
    by_cases h : ru j = since
    · rw [if_pos h, wlF_n]; omega
    · rw [if_neg h]; omega
def mLg (w : rz_W) (q : Nat) : LgS := (rI w 64, rI w 65, rI w 66, q)
def sMg (w : rz_W) (s : LgS) : rz_W := rz_set (rz_set (rz_set (mset w 15 (nI s.2.2.2)) 64 (ri 300 s.1)) 65 (ri 300 s.2.1)) 66 (ri 300 s.2.2.1)
abbrev wMs (th po re nw si pl tr bo pn sp co : Int32) (pa ci ru : Nat → Int32) (s : LgS) : rz_W := wMl (oMo th po re nw si pl tr bo pn (nI s.2.2.2) sp co) pa ci ru s.1 s.2.1 s.2.2.1
def ce_X7_overdue : rz_K := (2, kMl, 2, false, fun av w => ∃ (pa ci ru : Nat → Int32) (s : LgS) (th po re nw si pl tr bo sp co b : Int32) (k i : Nat), av = [.ref 50, .int b] ∧ w = wMs th po re nw si pl tr bo (nI k) sp co pa ci ru s ∧ k ≤ 100 ∧ lastK (pkP (mB pa 0) (mB pa 1) b nw) k = nI i ∧ i < 100 ∧ s.2.2.2 < 2 ^ 29, fun av w _ w' => ∀ i k q : Nat, rF w 50 14 = nI k → k ≤ 100 → rF w 50 15 = nI q → q < 2 ^ 29 → lastK (pkP (mB (rI w 61) 0) (mB (rI w 61) 1) (rA av 1) (rF w 50 9)) k = nI i → i < 100 → w' = sMg w (odF (rI w 63) (rF w 50 9 - (mE (rI w 61) i + 1)) (rA av 1) (rF w 50 9) (mLg w q) 5))
def cl_X7_overdue : List (Nat × rz_K) := []
def cv_X7_overdue : List (Nat × rz_K) := [(196, ce_X7_ofPlan), (199, ce_X7_lastPlan)]
theorem vc_X7_overdue : rz_VC k_X7_overdue fl_X7 cl_X7_overdue cv_X7_overdue s_X7_overdue false 5 ce_X7_overdue := by
  intro av w hlen hk hpre
  obtain ⟨pa, ci, ru, s, th, po, re, nw, si, pl, tr, bo, sp, co, b, k, i, rfl, rfl, hk2, hla, hi, hs⟩ := hpre
  generalize hS : nw - (mE pa i + 1) = since
  have fin : rz_end ce_X7_overdue [.ref 50, .int b] (wMs th po re nw si pl tr bo (nI k) sp co pa ci ru s) none (wMs th po re nw si pl tr bo (nI k) sp co pa ci ru (odF ru since b nw s 5)) := by
    refine ⟨rfl, fun z => (by cases z), ?_⟩
    intro i' k' q e1 h1 e2 h2 e3 h3
    have e1 : k = k' := nI_inj (by omega) (by omega) e1
    have e2 : s.2.2.2 = q := nI_inj (by omega) (by omega) e2
    subst e1 e2
    have e3 : lastK (pkP (mB pa 0) (mB pa 1) b nw) k = nI i' := e3
    have e4 : i = i' := nI_inj (by omega) (by omega) (hla.symm.trans e3)
    subst e4
    rw [← hS]
    rfl
  have pln : ∀ (a : Nat) (x : Int32), a < 5 → ce_X7_ofPlan.2.2.2.2.2 [.ref 50, .int (nI i), .int (nI a)] (wMp (oMo th po re nw si pl tr bo (nI k) (nI s.2.2.2) sp co) pa) (some (.int x)) (wMp (oMo th po re nw si pl tr bo (nI k) (nI s.2.2.2) sp co) pa) → x = pa (5 * i + a) := fun a x ha hx => hx i a rfl rfl hi ha
  refine ⟨Nat.le_of_ble_eq_true rfl, [(34, [0, 1, 3, 4], fun z lv w' => ∃ r : Nat, r ≤ 5 ∧ lv = [(0, .ref 50), (1, .int b), (3, .int since), (4, .int (nI r))] ∧ w' = wMs th po re nw si pl tr bo (nI k) sp co pa ci ru (odF ru since b nw s r) ∧ z = 5 - r)], 60, 6, ?_, ?_⟩
  · intro y hq z lv w' hj
    rcases List.mem_cons.mp hq with rfl | hq
    · obtain ⟨r, hr, rfl, rfl, rfl⟩ := hj
      conv => whnf
      refine ⟨fun c => ?_, fun c => ?_⟩
      · have c : nI 5 ≤ nI r := c
        have e : r = 5 := by
          have := (nI_leI (by omega) (by omega)).mp c
          omega
        subst e
        exact fin
      · have c : ¬ nI 5 ≤ nI r := c
        have hr2 : r < 5 := by
          rcases Nat.lt_or_ge r 5 with z | z
          · exact z
          · exact absurd (nI_le z (by omega)) c
        have hv : vp_in (nI r) 5 := vp_in_nI hr2 (by omega)
        have hcl : (nI r).toNatClampNeg = r := nI_clamp (by omega)
        have hb := odF_n ru since b nw s r
        generalize hT : odF ru since b nw s r = t
        have hs1 : odF ru since b nw s (r + 1) = if ru r = since then wlF t b (nI r) nw else t := by rw [← hT]; rfl
        rw [hT] at hb
        conv => whnf
        refine ⟨hv, ?_⟩
        conv => whnf
        refine ⟨fun c2 => ?_, fun c2 => ?_⟩
        · have c2 : ru (nI r).toNatClampNeg = since := c2
          rw [hcl] at c2
          rw [if_pos c2] at hs1
          conv => whnf
          refine ⟨fun c3 => ?_, fun c3 => ?_⟩
          · have c3 : nI 300 ≤ nI t.2.2.2 := c3
            have c3 := (nI_leI (by omega) (by omega)).mp c3
            conv => whnf
            rintro _ rfl
            conv => whnf
            refine ⟨5 - (r + 1), by omega, r + 1, by omega, ?_, ?_, rfl⟩
            · show [_, _, _, (4, Value.int (nI r + 1))] = _
              rw [nI_1]
            · show wMl (oMo th po re nw si pl tr bo (nI k) (nI t.2.2.2 + 1) sp co) pa ci ru t.1 t.2.1 t.2.2.1 = _
              rw [hs1, nI_1, wlF, if_neg (by omega)]
          · have c3 : ¬ nI 300 ≤ nI t.2.2.2 := c3
            have c3 : t.2.2.2 < 300 := by
              rcases Nat.lt_or_ge t.2.2.2 300 with z | z
              · exact z
              · exact absurd (nI_le z (by omega)) c3
            have hvq : vp_in (nI t.2.2.2) 300 := vp_in_nI c3 (by omega)
            conv => whnf
            refine ⟨hvq, ?_⟩
            conv => whnf
            refine ⟨hvq, ?_⟩
            conv => whnf
            refine ⟨hvq, ?_⟩
            conv => whnf
            rintro _ rfl
            conv => whnf
            refine ⟨5 - (r + 1), by omega, r + 1, by omega, ?_, ?_, rfl⟩
            · show [_, _, _, (4, Value.int (nI r + 1))] = _
              rw [nI_1]
            · show wMl (oMo th po re nw si pl tr bo (nI k) (nI t.2.2.2 + 1) sp co) pa ci ru (upd t.1 (nI t.2.2.2).toNatClampNeg b) (upd t.2.1 (nI t.2.2.2).toNatClampNeg (nI r)) (upd t.2.2.1 (nI t.2.2.2).toNatClampNeg nw) = _
              rw [hs1, nI_1, wlF, if_pos c3, nI_clamp (by omega)]
        · have c2 : ¬ ru (nI r).toNatClampNeg = since := c2
          rw [hcl] at c2
          rw [if_neg c2] at hs1
          conv => whnf
          rintro _ rfl
          conv => whnf
          refine ⟨5 - (r + 1), by omega, r + 1, by omega, ?_, ?_, rfl⟩
          · show [_, _, _, (4, Value.int (nI r + 1))] = _
            rw [nI_1]
          · rw [hs1]
    · exact absurd hq List.not_mem_nil
  · conv => whnf
    refine ⟨⟨pa, th, po, re, nw, si, pl, tr, bo, nI s.2.2.2, sp, co, b, nw, k, rfl, rfl, hk2⟩, ?_⟩
    intro r hr
    have hr : r = lastK (pkP (mB pa 0) (mB pa 1) b nw) k := hr k rfl hk2
    rw [hla] at hr
    subst hr
    conv => whnf
    rintro _ rfl
    conv => whnf
    refine ⟨⟨pa, th, po, re, nw, si, pl, tr, bo, nI k, nI s.2.2.2, sp, co, i, 3, rfl, rfl, hi, by omega⟩, ?_⟩
    intro x3 hx3
    obtain rfl := pln 3 x3 (by omega) hx3
    conv => whnf
    refine ⟨⟨pa, th, po, re, nw, si, pl, tr, bo, nI k, nI s.2.2.2, sp, co, i, 4, rfl, rfl, hi, by omega⟩, ?_⟩
    intro x4 hx4
    obtain rfl := pln 4 x4 (by omega) hx4
    conv => whnf
    rintro _ rfl
    conv => whnf
    rintro _ rfl
    conv => whnf
    refine ⟨5, by omega, 0, by omega, ?_, rfl, rfl⟩
    show [_, _, (3, Value.int (nw - (pa (5 * i + 3) + pa (5 * i + 4) + 1))), _] = _
    rw [← hS]
    rfl
theorem rv_X7_overdue : rz_Rv yX7_overdue.cls ce_X7_overdue := fun av w h => by
  obtain ⟨_, _, _, _, _, _, _, _, _, _, _, _, _, _, _, _, _, rfl, rfl, _⟩ := h
  exact ⟨_, _, _, _, _, _, rfl, rfl, rfl⟩
theorem cn_X7_overdue (l : Launch) : rz_Con l yX7_overdue cX7_overdue 5 none 2 0 0 ce_X7_overdue := rz_con (by decide +kernel) fo_X7 (fun _ h => absurd h List.not_mem_nil) (by
  intro q hq
  rcases List.mem_cons.mp hq with rfl | hq
  · exact rz_callV (cn_X7_ofPlan l) (by decide +kernel) ⟨Nat.le_of_ble_eq_true rfl, Nat.le_of_ble_eq_true rfl⟩ m_X7_ofPlan rfl i_X7_ofPlan v_X7_ofPlan rv_X7_ofPlan n_X7_196
  rcases List.mem_cons.mp hq with rfl | hq
  · exact rz_callV (cn_X7_lastPlan l) (by decide +kernel) ⟨Nat.le_of_ble_eq_true rfl, Nat.le_of_ble_eq_true rfl⟩ m_X7_lastPlan rfl i_X7_lastPlan v_X7_lastPlan rv_X7_lastPlan n_X7_199
  exact absurd hq List.not_mem_nil) r_X7_overdue vc_X7_overdue
/-- one minute t of the reference: boats in turn -/
def moF (pa ci ru : Nat → Int32) (k : Nat) (t : Int32) (s : LgS) : Nat → LgS
  | 0 => s
  | b + 1 => if stF (lastK (pkP (mB pa 0) (mB pa 1) (nI b) t) k) (ci b) t t (mB pa 2) (mE pa) = 3 then odF ru (t - (mE pa (lastK (pkP (mB pa 0) (mB pa 1) (nI b) t) k).toNatClampNeg + 1)) (nI b) t (moF pa ci ru k t s b) 5 else moF pa ci ru k t s b
theorem moF_n (pa ci ru : Nat → Int32) (k : Nat) (t : Int32) (s : LgS) : ∀ b, (moF pa ci ru k t s b).2.2.2 ≤ s.2.2.2 + 5 * b
  | 0 => Nat.le_refl _
  | b + 1 => by
    have ih := moF_n pa ci ru k t s b
    unfold moF
    by_cases h : stF (lastK (pkP (mB pa 0) (mB pa 1) (nI b) t) k) (ci b) t t (mB pa 2) (mE pa) = 3
    · rw [if_pos h]
      have := odF_n ru (t - (mE pa (lastK (pkP (mB pa 0) (mB pa 1) (nI b) t) k).toNatClampNeg + 1)) (nI b) t (moF pa ci ru k t s b) 5
      omega
    · rw [if_neg h]; omega
/-- i minutes from t on -/
def spF (pa ci ru : Nat → Int32) (k n t : Nat) (s : LgS) : Nat → LgS
  | 0 => s
  | i + 1 => moF pa ci ru k (nI (t + i + 1)) (spF pa ci ru k n t s i) n
theorem spF_n (pa ci ru : Nat → Int32) (k n t : Nat) (s : LgS) (hn : n ≤ 30) : ∀ i, (spF pa ci ru k n t s i).2.2.2 ≤ s.2.2.2 + 150 * i
  | 0 => Nat.le_refl _
  | i + 1 => by
    have ih := spF_n pa ci ru k n t s hn i
    have := moF_n pa ci ru k (nI (t + i + 1)) (spF pa ci ru k n t s i) n
    show (moF pa ci ru k (nI (t + i + 1)) (spF pa ci ru k n t s i) n).2.2.2 ≤ _
    omega
def ce_X7_step : rz_K := (2, kMl, 0, false, fun av w => ∃ (pa ci ru : Nat → Int32) (s : LgS) (th po re si pl tr sp co x : Int32) (k n t : Nat), av = [.ref 50, .int x] ∧ w = wMs th po re (nI t) si pl tr (nI n) (nI k) sp co pa ci ru s ∧ k ≤ 100 ∧ n ≤ 30 ∧ t ≤ 20000 ∧ s.2.2.2 < 2 ^ 28, fun av w o w' => ∀ k n t q : Nat, rF w 50 14 = nI k → k ≤ 100 → rF w 50 13 = nI n → n ≤ 30 → rF w 50 9 = nI t → t ≤ 20000 → rF w 50 15 = nI q → q < 2 ^ 28 → if okN (rA av 1) (nI t) then rR o = nI t + rA av 1 ∧ w' = sMg (mset (mset w 0 0) 9 (nI t + rA av 1)) (spF (rI w 61) (rI w 62) (rI w 63) k n t (mLg w q) (rA av 1).toNatClampNeg) else rR o = -1 ∧ w' = mset w 0 0)
def cl_X7_step : List (Nat × rz_K) := [(87, ce_X7_isIn)]
def cv_X7_step : List (Nat × rz_K) := [(202, ce_X7_stands), (206, ce_X7_overdue)]
theorem vc_X7_step : rz_VC k_X7_step fl_X7 cl_X7_step cv_X7_step s_X7_step false 4 ce_X7_step := by
  intro av w hlen hk hpre
  obtain ⟨pa, ci, ru, s, th, po, re, si, pl, tr, sp, co, x, k, n, t, rfl, rfl, hk2, hn, ht, hs⟩ := hpre
  have no : ¬ okN x (nI t) → rz_end ce_X7_step [.ref 50, .int x] (wMs th po re (nI t) si pl tr (nI n) (nI k) sp co pa ci ru s) (some (.int (-1))) (wMs 0 po re (nI t) si pl tr (nI n) (nI k) sp co pa ci ru s) := by
    intro z1
    refine ⟨⟨_, rfl⟩, fun z => (by cases z), ?_⟩
    intro k' n' t' q e1 h1 e2 h2 e3 h3 e4 h4
    have e3 : t = t' := nI_inj (by omega) (by omega) e3
    subst e3
    exact if_no z1 ⟨rfl, rfl⟩
  have yes : ∀ X : Nat, X ≤ 3000 → x = nI X → okN x (nI t) → rz_end ce_X7_step [.ref 50, .int x] (wMs th po re (nI t) si pl tr (nI n) (nI k) sp co pa ci ru s) (some (.int (nI (t + X)))) (wMs 0 po re (nI (t + X)) si pl tr (nI n) (nI k) sp co pa ci ru (spF pa ci ru k n t s X)) := by
    intro X hX hx z1
    refine ⟨⟨_, rfl⟩, fun z => (by cases z), ?_⟩
    intro k' n' t' q e1 h1 e2 h2 e3 h3 e4 h4
    have e1 : k = k' := nI_inj (by omega) (by omega) e1
    have e2 : n = n' := nI_inj (by omega) (by omega) e2
    have e3 : t = t' := nI_inj (by omega) (by omega) e3
    have e4 : s.2.2.2 = q := nI_inj (by omega) (by omega) e4
    subst e1 e2 e3 e4
    refine if_yes z1 ⟨?_, ?_⟩
    · show nI (t + X) = nI t + x
      rw [hx, nI_add]
    · show _ = wMs 0 po re (nI t + x) si pl tr (nI n) (nI k) sp co pa ci ru (spF pa ci ru k n t s x.toNatClampNeg)
      rw [hx, nI_add, nI_clamp (by omega)]
  refine ⟨Nat.le_of_ble_eq_true rfl, [
    (32, [0, 1, 2], fun z lv w' => ∃ X i : Nat, X ≤ 3000 ∧ x = nI X ∧ okN x (nI t) ∧ i ≤ X ∧ lv = [(0, .ref 50), (1, .int x), (2, .int (nI i))] ∧ w' = wMs 0 po re (nI (t + i)) si pl tr (nI n) (nI k) sp co pa ci ru (spF pa ci ru k n t s i) ∧ z = (X - i) * 100 + 50),
    (49, [0, 1, 2, 3], fun z lv w' => ∃ X i b : Nat, X ≤ 3000 ∧ x = nI X ∧ okN x (nI t) ∧ i < X ∧ b ≤ n ∧ lv = [(0, .ref 50), (1, .int x), (2, .int (nI i)), (3, .int (nI b))] ∧ w' = wMs 0 po re (nI (t + i + 1)) si pl tr (nI n) (nI k) sp co pa ci ru (moF pa ci ru k (nI (t + i + 1)) (spF pa ci ru k n t s i) b) ∧ z = (X - i) * 100 + 40 - b)], 90, 300051, ?_, ?_⟩
  · intro y hq z lv w' hj
    rcases List.mem_cons.mp hq with rfl | hq
    · obtain ⟨X, i, hX, hx, hO, hi, rfl, rfl, rfl⟩ := hj
      subst hx
      conv => whnf
      refine ⟨fun c => ?_, fun c => ?_⟩
      · have e : i = X := by
          have := (nI_leI (by omega) (by omega)).mp c
          omega
        subst e
        exact yes i hX rfl hO
      · have hi2 : i < X := by
          rcases Nat.lt_or_ge i X with z | z
          · exact z
          · exact absurd (nI_le z (by omega)) c
        conv => whnf
        rintro _ rfl
        conv => whnf
        refine ⟨(X - i) * 100 + 40, by omega, X, i, 0, hX, rfl, hO, hi2, by omega, rfl, ?_, rfl⟩
        show wMl (oMo 0 po re (nI (t + i) + 1) si pl tr (nI n) (nI k) (nI (spF pa ci ru k n t s i).2.2.2) sp co) pa ci ru _ _ _ = _
        rw [nI_1]
        rfl
    rcases List.mem_cons.mp hq with rfl | hq
    · obtain ⟨X, i, b, hX, hx, hO, hi, hb, rfl, rfl, rfl⟩ := hj
      subst hx
      have hn1 := moF_n pa ci ru k (nI (t + i + 1)) (spF pa ci ru k n t s i) b
      have hn2 := spF_n pa ci ru k n t s hn i
      conv => whnf
      refine ⟨fun c => ?_, fun c => ?_⟩
      · have e : b = n := by
          have := (nI_leI (by omega) (by omega)).mp c
          omega
        subst e
        conv => whnf
        rintro _ rfl
        conv => whnf
        refine ⟨(X - (i + 1)) * 100 + 50, by omega, X, i + 1, hX, rfl, hO, by omega, ?_, rfl, rfl⟩
        show [_, _, (2, Value.int (nI i + 1))] = _
        rw [nI_1]
      · have hb2 : b < n := by
          rcases Nat.lt_or_ge b n with z | z
          · exact z
          · exact absurd (nI_le z (by omega)) c
        have hcl : (nI b).toNatClampNeg = b := nI_clamp (by omega)
        have hm1 : moF pa ci ru k (nI (t + i + 1)) (spF pa ci ru k n t s i) (b + 1) = if stF (lastK (pkP (mB pa 0) (mB pa 1) (nI b) (nI (t + i + 1))) k) (ci b) (nI (t + i + 1)) (nI (t + i + 1)) (mB pa 2) (mE pa) = 3 then odF ru (nI (t + i + 1) - (mE pa (lastK (pkP (mB pa 0) (mB pa 1) (nI b) (nI (t + i + 1))) k).toNatClampNeg + 1)) (nI b) (nI (t + i + 1)) (moF pa ci ru k (nI (t + i + 1)) (spF pa ci ru k n t s i) b) 5 else moF pa ci ru k (nI (t + i + 1)) (spF pa ci ru k n t s i) b := rfl
        generalize moF pa ci ru k (nI (t + i + 1)) (spF pa ci ru k n t s i) b = u at *
        generalize hT : nI (t + i + 1) = T at *
        conv => whnf
        refine ⟨⟨pa, ci, 0, po, re, T, si, pl, tr, nI n, nI u.2.2.2, sp, co, nI b, T, T, k, rfl, rfl, hk2, vp_in_nI (by omega) (by omega)⟩, ?_⟩
        intro r hr
        have hr : r = stF (lastK (pkP (mB pa 0) (mB pa 1) (nI b) T) k) (ci (nI b).toNatClampNeg) T T (mB pa 2) (mE pa) := hr k rfl hk2
        rw [hcl] at hr
        subst hr
        conv => whnf
        refine ⟨fun c2 => ?_, fun c2 => ?_⟩
        · have c2 : stF (lastK (pkP (mB pa 0) (mB pa 1) (nI b) T) k) (ci b) T T (mB pa 2) (mE pa) = 3 := c2
          rw [if_pos c2] at hm1
          obtain ⟨g, hg1, hg2⟩ : ∃ g, g < 100 ∧ lastK (pkP (mB pa 0) (mB pa 1) (nI b) T) k = nI g := by
            rcases lastK_in (pkP (mB pa 0) (mB pa 1) (nI b) T) k (by omega) with y | ⟨g, y1, y2, y3⟩
            · unfold stF at c2
              rw [if_pos y] at c2
              exact absurd c2 (by decide)
            · exact ⟨g, by omega, y2⟩
          have hu : u.2.2.2 < 2 ^ 29 := by omega
          conv => whnf
          refine ⟨⟨pa, ci, ru, u, 0, po, re, T, si, pl, tr, nI n, sp, co, nI b, k, g, rfl, rfl, hk2, hg2, hg1, hu⟩, ?_⟩
          intro wc hwc
          have hwc : wc = wMs 0 po re T si pl tr (nI n) (nI k) sp co pa ci ru (odF ru (T - (mE pa g + 1)) (nI b) T u 5) := hwc g k _ rfl hk2 rfl hu hg2 hg1
          subst hwc
          conv => whnf
          rintro _ rfl
          conv => whnf
          refine ⟨(X - i) * 100 + 40 - (b + 1), by omega, X, i, b + 1, hX, rfl, hO, hi, by omega, ?_, ?_, rfl⟩
          · show [_, _, _, (3, Value.int (nI b + 1))] = _
            rw [nI_1]
          · rw [hT, hm1, hg2, nI_clamp (by omega)]
            rfl
        · have c2 : ¬ stF (lastK (pkP (mB pa 0) (mB pa 1) (nI b) T) k) (ci b) T T (mB pa 2) (mE pa) = 3 := c2
          rw [if_neg c2] at hm1
          conv => whnf
          rintro _ rfl
          conv => whnf
          refine ⟨(X - i) * 100 + 40 - (b + 1), by omega, X, i, b + 1, hX, rfl, hO, hi, by omega, ?_, ?_, rfl⟩
          · show [_, _, _, (3, Value.int (nI b + 1))] = _
            rw [nI_1]
          · rw [hT, hm1]
    · exact absurd hq List.not_mem_nil
  · conv => whnf
    refine ⟨⟨_, _, _, rfl, rfl, trivial⟩, ?_⟩
    intro r hr
    obtain rfl : r = bI (0 ≤ x ∧ x ≤ 3000) := hr
    conv => whnf
    refine ⟨fun h1 => ?_, fun h1 => ?_⟩
    · exact no (fun z => bI_0 h1 z.1)
    · conv => whnf
      refine ⟨fun h2 => ?_, fun h2 => ?_⟩
      · obtain ⟨X, hX, hx⟩ := vp_in_of (vp_of2 (n := 3001) (bI_n h1).1 (bI_n h1).2 rfl) (by omega)
        conv => whnf
        rintro _ rfl
        conv => whnf
        refine ⟨(X - 0) * 100 + 50, by omega, X, 0, by omega, hx, ⟨bI_n h1, h2⟩, by omega, rfl, rfl, rfl⟩
      · exact no (fun z => h2 z.2)
theorem rv_X7_step : rz_Rv yX7_step.cls ce_X7_step := fun av w h => by
  obtain ⟨_, _, _, _, _, _, _, _, _, _, _, _, _, _, _, _, rfl, rfl, _⟩ := h
  exact ⟨_, _, _, _, _, _, rfl, rfl, rfl⟩
theorem cn_X7_step (l : Launch) : rz_Con l yX7_step cX7_step 4 (some .int) 3 0 0 ce_X7_step := rz_con (by decide +kernel) fo_X7 (by
  intro q hq
  rcases List.mem_cons.mp hq with rfl | hq
  · exact rz_callS (cn_X7_isIn l) (by decide +kernel) ⟨Nat.le_of_ble_eq_true rfl, Nat.le_of_ble_eq_true rfl⟩ m_X7_isIn t_X7_isIn n_X7_87
  exact absurd hq List.not_mem_nil) (by
  intro q hq
  rcases List.mem_cons.mp hq with rfl | hq
  · exact rz_callV (cn_X7_stands l) (by decide +kernel) ⟨Nat.le_of_ble_eq_true rfl, Nat.le_of_ble_eq_true rfl⟩ m_X7_stands rfl i_X7_stands v_X7_stands rv_X7_stands n_X7_202
  rcases List.mem_cons.mp hq with rfl | hq
  · exact rz_callV (cn_X7_overdue l) (by decide +kernel) ⟨Nat.le_of_ble_eq_true rfl, Nat.le_of_ble_eq_true rfl⟩ m_X7_overdue rfl i_X7_overdue v_X7_overdue rv_X7_overdue n_X7_206
  exact absurd hq List.not_mem_nil) r_X7_step vc_X7_step
theorem okL_iff {i : Int32} {q : Nat} (hq : q < 2 ^ 30) : okL i q ↔ ¬ i < 0 ∧ ¬ nI q ≤ i ∧ i < 300 := by
  have e0 : (0 : Int32).toInt = 0 := rfl
  have e3 : (300 : Int32).toInt = 300 := rfl
  have eq1 : (nI q).toInt = (q : Int) := nI_toInt (by omega)
  have eq2 : (nI q - 1).toInt = (q : Int) - 1 := pk_sub_toInt (a := q) (b := 1) (by omega) (by omega)
  have e299 : ((300 : Int32) - 1).toInt = 299 := rfl
  unfold okL
  by_cases z : (300 : Int32) < nI q
  · rw [if_pos z]
    rw [Int32.lt_iff_toInt_lt] at z ⊢
    rw [Int32.lt_iff_toInt_lt, Int32.le_iff_toInt_le, Int32.le_iff_toInt_le, Int32.le_iff_toInt_le]
    omega
  · rw [if_neg z]
    rw [Int32.lt_iff_toInt_lt] at z ⊢
    rw [Int32.lt_iff_toInt_lt, Int32.le_iff_toInt_le, Int32.le_iff_toInt_le, Int32.le_iff_toInt_le]
    omega
abbrev wMg (o : rz_C) (lb lr lm : Nat → Int32) : rz_W := [(50, o), (64, ri 300 lb), (65, ri 300 lr), (66, ri 300 lm)]
def ce_X7_log : rz_K := (3, [50, 64, 65, 66], 0, false, fun av w => ∃ (lb lr lm : Nat → Int32) (th po re nw si pl tr bo pn sp co i a : Int32) (q : Nat), av = [.ref 50, .int i, .int a] ∧ w = wMg (oMo th po re nw si pl tr bo pn (nI q) sp co) lb lr lm ∧ q < 2 ^ 30, fun av w o w' => (∀ q : Nat, rF w 50 15 = nI q → q < 2 ^ 30 → rR o = if okL (rA av 1) q then (if rA av 2 = 0 then rI w 64 (rA av 1).toNatClampNeg else if rA av 2 = 1 then rI w 65 (rA av 1).toNatClampNeg else if rA av 2 = 2 then rI w 66 (rA av 1).toNatClampNeg else -1) else -1) ∧ w' = mset w 0 0)
def cl_X7_log : List (Nat × rz_K) := []
def cv_X7_log : List (Nat × rz_K) := []
theorem vc_X7_log : rz_VC k_X7_log fl_X7 cl_X7_log cv_X7_log s_X7_log false 3 ce_X7_log := by
  intro av w hlen hk hpre
  obtain ⟨lb, lr, lm, th, po, re, nw, si, pl, tr, bo, pn, sp, co, i, a, q, rfl, rfl, hq⟩ := hpre
  refine ⟨Nat.le_of_ble_eq_true rfl, [], 60, 0, fun q h => absurd h List.not_mem_nil, ?_⟩
  have fin : ∀ v : Int32, (v = if okL i q then (if a = 0 then lb i.toNatClampNeg else if a = 1 then lr i.toNatClampNeg else if a = 2 then lm i.toNatClampNeg else -1) else -1) → rz_end ce_X7_log [.ref 50, .int i, .int a] (wMg (oMo th po re nw si pl tr bo pn (nI q) sp co) lb lr lm) (some (.int v)) (wMg (oMo 0 po re nw si pl tr bo pn (nI q) sp co) lb lr lm) := by
    intro v hv
    refine ⟨⟨_, rfl⟩, fun z => (by cases z), ?_, rfl⟩
    intro q' e1 h1
    have e1 : q = q' := nI_inj (by omega) (by omega) e1
    subst e1
    exact hv
  conv => whnf
  refine ⟨fun h1 => ?_, fun h1 => ?_⟩
  · exact fin _ (if_neg (fun z => ((okL_iff hq).mp z).1 h1)).symm
  · conv => whnf
    refine ⟨fun h2 => ?_, fun h2 => ?_⟩
    · exact fin _ (if_neg (fun z => ((okL_iff hq).mp z).2.1 h2)).symm
    · conv => whnf
      refine ⟨fun h3 => ?_, fun h3 => ?_⟩
      · have hO : okL i q := (okL_iff hq).mpr ⟨h1, h2, h3⟩
        have hv := okL_vp hO hq
        conv => whnf
        refine ⟨fun g1 => ?_, fun g1 => ?_⟩
        · conv => whnf
          refine ⟨hv, ?_⟩
          conv => whnf
          exact fin _ (by rw [if_pos hO, if_pos g1])
        · conv => whnf
          refine ⟨fun g2 => ?_, fun g2 => ?_⟩
          · conv => whnf
            refine ⟨hv, ?_⟩
            conv => whnf
            exact fin _ (by rw [if_pos hO, if_neg g1, if_pos g2])
          · conv => whnf
            refine ⟨fun g3 => ?_, fun g3 => ?_⟩
            · conv => whnf
              refine ⟨hv, ?_⟩
              conv => whnf
              exact fin _ (by rw [if_pos hO, if_neg g1, if_neg g2, if_pos g3])
            · exact fin _ (by rw [if_pos hO, if_neg g1, if_neg g2, if_neg g3])
      · exact fin _ (if_neg (fun z => h3 ((okL_iff hq).mp z).2.2)).symm
theorem rv_X7_log : rz_Rv yX7_log.cls ce_X7_log := fun av w h => by
  obtain ⟨_, _, _, _, _, _, _, _, _, _, _, _, _, _, _, _, _, rfl, rfl, _⟩ := h
  exact ⟨_, _, _, _, _, _, rfl, rfl, rfl⟩
theorem cn_X7_log (l : Launch) : rz_Con l yX7_log cX7_log 3 (some .int) 0 0 0 ce_X7_log := rz_con (by decide +kernel) fo_X7 (fun _ h => absurd h List.not_mem_nil) (fun _ h => absurd h List.not_mem_nil) r_X7_log vc_X7_log
def ce_X7_count : rz_K := (2, kMb, 0, false, fun av w => ∃ (pa ci : Nat → Int32) (th po re nw si pl tr ca sp co a : Int32) (k n : Nat), av = [.ref 50, .int a] ∧ w = wMb (oMo th po re nw si pl tr (nI n) (nI k) ca sp co) pa ci ∧ k ≤ 100 ∧ n ≤ 30, fun av w o w' => (∀ k n : Nat, rF w 50 14 = nI k → k ≤ 100 → rF w 50 13 = nI n → n ≤ 30 → rR o = if rA av 1 = 0 then rF w 50 9 else if rA av 1 = 1 then rF w 50 7 else if rA av 1 = 2 then rF w 50 8 else if rA av 1 = 3 then rF w 50 10 else if rA av 1 = 4 then rF w 50 11 else if rA av 1 = 5 then rF w 50 12 else if rA av 1 = 6 then nI n else if rA av 1 = 7 then rF w 50 15 else if rA av 1 = 8 then cntB (fun b => decide (stF (lastK (pkP (mB (rI w 61) 0) (mB (rI w 61) 1) (nI b) (rF w 50 9)) k) (rI w 62 b) (rF w 50 9) (rF w 50 9) (mB (rI w 61) 2) (mE (rI w 61)) = 3)) n else -1) ∧ w' = mset w 0 0)
def cl_X7_count : List (Nat × rz_K) := []
def cv_X7_count : List (Nat × rz_K) := [(202, ce_X7_stands)]
theorem vc_X7_count : rz_VC k_X7_count fl_X7 cl_X7_count cv_X7_count s_X7_count false 4 ce_X7_count := by
  intro av w hlen hk hpre
  obtain ⟨pa, ci, th, po, re, nw, si, pl, tr, ca, sp, co, a, k, n, rfl, rfl, hk2, hn⟩ := hpre
  generalize hp : (fun b => decide (stF (lastK (pkP (mB pa 0) (mB pa 1) (nI b) nw) k) (ci b) nw nw (mB pa 2) (mE pa) = 3)) = p
  have hp2 : ∀ b, p b = decide (stF (lastK (pkP (mB pa 0) (mB pa 1) (nI b) nw) k) (ci b) nw nw (mB pa 2) (mE pa) = 3) := fun b => by rw [← hp]
  have hs : ∀ i, cntB p (i + 1) = if p i then cntB p i + 1 else cntB p i := fun _ => rfl
  have fin : ∀ v : Int32, (v = if a = 0 then nw else if a = 1 then po else if a = 2 then re else if a = 3 then si else if a = 4 then pl else if a = 5 then tr else if a = 6 then nI n else if a = 7 then ca else if a = 8 then cntB p n else -1) → rz_end ce_X7_count [.ref 50, .int a] (wMb (oMo th po re nw si pl tr (nI n) (nI k) ca sp co) pa ci) (some (.int v)) (wMb (oMo 0 po re nw si pl tr (nI n) (nI k) ca sp co) pa ci) := by
    intro v hv
    refine ⟨⟨_, rfl⟩, fun z => (by cases z), ?_, rfl⟩
    intro k' n' e1 g1 e2 g2
    have e1 : k = k' := nI_inj (by omega) (by omega) e1
    have e2 : n = n' := nI_inj (by omega) (by omega) e2
    subst e1 e2
    rw [hv, ← hp]
    rfl
  refine ⟨Nat.le_of_ble_eq_true rfl, [(100, [0, 1, 2, 3], fun z lv w' => ∃ i : Nat, a = 8 ∧ i ≤ n ∧ lv = [(0, .ref 50), (1, .int a), (2, .int (cntB p i)), (3, .int (nI i))] ∧ w' = wMb (oMo 0 po re nw si pl tr (nI n) (nI k) ca sp co) pa ci ∧ z = n - i)], 60, n + 1, ?_, ?_⟩
  · intro y hq z lv w' hj
    rcases List.mem_cons.mp hq with rfl | hq
    · obtain ⟨i, ha, hi, rfl, rfl, rfl⟩ := hj
      subst ha
      conv => whnf
      refine ⟨fun c => ?_, fun c => ?_⟩
      · have e : i = n := by
          have := (nI_leI (by omega) (by omega)).mp c
          omega
        subst e
        exact fin _ (by rw [if_neg (by decide), if_neg (by decide), if_neg (by decide), if_neg (by decide), if_neg (by decide), if_neg (by decide), if_neg (by decide), if_neg (by decide), if_pos rfl])
      · have hi2 : i < n := by
          rcases Nat.lt_or_ge i n with z | z
          · exact z
          · exact absurd (nI_le z (by omega)) c
        have hcl : (nI i).toNatClampNeg = i := nI_clamp (by omega)
        conv => whnf
        refine ⟨⟨pa, ci, 0, po, re, nw, si, pl, tr, nI n, ca, sp, co, nI i, nw, nw, k, rfl, rfl, hk2, vp_in_nI (by omega) (by omega)⟩, ?_⟩
        intro r hr
        have hr : r = stF (lastK (pkP (mB pa 0) (mB pa 1) (nI i) nw) k) (ci (nI i).toNatClampNeg) nw nw (mB pa 2) (mE pa) := hr k rfl hk2
        rw [hcl] at hr
        subst hr
        conv => whnf
        refine ⟨fun c2 => ?_, fun c2 => ?_⟩
        · conv => whnf
          rintro _ rfl
          conv => whnf
          rintro _ rfl
          conv => whnf
          refine ⟨n - (i + 1), by omega, i + 1, rfl, by omega, ?_, rfl, rfl⟩
          show [_, _, (2, Value.int (cntB p i + 1)), (3, Value.int (nI i + 1))] = _
          rw [nI_1, hs, hp2, if_pos (by simp only [decide_eq_true_eq]; exact c2)]
        · conv => whnf
          rintro _ rfl
          conv => whnf
          rintro _ rfl
          conv => whnf
          refine ⟨n - (i + 1), by omega, i + 1, rfl, by omega, ?_, rfl, rfl⟩
          show [_, _, (2, Value.int (cntB p i + 0)), (3, Value.int (nI i + 1))] = _
          rw [nI_1, hs, hp2, if_neg (by simp only [decide_eq_true_eq]; exact c2), Int32.add_zero]
    · exact absurd hq List.not_mem_nil
  · conv => whnf
    refine ⟨fun h0 => ?_, fun h0 => ?_⟩
    · exact fin _ (by rw [if_pos h0])
    · conv => whnf
      refine ⟨fun h1 => ?_, fun h1 => ?_⟩
      · exact fin _ (by rw [if_neg h0, if_pos h1])
      · conv => whnf
        refine ⟨fun h2 => ?_, fun h2 => ?_⟩
        · exact fin _ (by rw [if_neg h0, if_neg h1, if_pos h2])
        · conv => whnf
          refine ⟨fun h3 => ?_, fun h3 => ?_⟩
          · exact fin _ (by rw [if_neg h0, if_neg h1, if_neg h2, if_pos h3])
          · conv => whnf
            refine ⟨fun h4 => ?_, fun h4 => ?_⟩
            · exact fin _ (by rw [if_neg h0, if_neg h1, if_neg h2, if_neg h3, if_pos h4])
            · conv => whnf
              refine ⟨fun h5 => ?_, fun h5 => ?_⟩
              · exact fin _ (by rw [if_neg h0, if_neg h1, if_neg h2, if_neg h3, if_neg h4, if_pos h5])
              · conv => whnf
                refine ⟨fun h6 => ?_, fun h6 => ?_⟩
                · exact fin _ (by rw [if_neg h0, if_neg h1, if_neg h2, if_neg h3, if_neg h4, if_neg h5, if_pos h6])
                · conv => whnf
                  refine ⟨fun h7 => ?_, fun h7 => ?_⟩
                  · exact fin _ (by rw [if_neg h0, if_neg h1, if_neg h2, if_neg h3, if_neg h4, if_neg h5, if_neg h6, if_pos h7])
                  · conv => whnf
                    refine ⟨fun h8 => ?_, fun h8 => ?_⟩
                    · conv => whnf
                      rintro _ rfl
                      conv => whnf
                      rintro _ rfl
                      conv => whnf
                      refine ⟨n, by omega, 0, h8, by omega, rfl, rfl, rfl⟩
                    · exact fin _ (by rw [if_neg h0, if_neg h1, if_neg h2, if_neg h3, if_neg h4, if_neg h5, if_neg h6, if_neg h7, if_neg h8])
theorem rv_X7_count : rz_Rv yX7_count.cls ce_X7_count := fun av w h => by
  obtain ⟨_, _, _, _, _, _, _, _, _, _, _, _, _, _, _, rfl, rfl, _⟩ := h
  exact ⟨_, _, _, _, _, _, rfl, rfl, rfl⟩
theorem cn_X7_count (l : Launch) : rz_Con l yX7_count cX7_count 4 (some .int) 3 0 0 ce_X7_count := rz_con (by decide +kernel) fo_X7 (fun _ h => absurd h List.not_mem_nil) (by
  intro q hq
  rcases List.mem_cons.mp hq with rfl | hq
  · exact rz_callV (cn_X7_stands l) (by decide +kernel) ⟨Nat.le_of_ble_eq_true rfl, Nat.le_of_ble_eq_true rfl⟩ m_X7_stands rfl i_X7_stands v_X7_stands rv_X7_stands n_X7_202
  exact absurd hq List.not_mem_nil) r_X7_count vc_X7_count
end
section
/-! The reference's plan: a row of five, let go again. -/
def cpN (tv : Nat → Int32) (base : Nat) (pa : Nat → Int32) : Nat → Nat → Int32
  | 0 => pa
  | i + 1 => upd (cpN tv base pa i) (base + i) (tv i)
def tl5 (a b c d e : Int32) : Nat → Int32 := upd (upd (upd (upd (upd (fun _ => 0) 0 a) 1 b) 2 c) 3 d) 4 e
theorem okS_j {j n : Nat} (hj : j < 2 ^ 30) (hn : n < 2 ^ 30) : okS (nI j) n ↔ j < n := by
  have e0 : (0 : Int32).toInt = 0 := rfl
  have e1 : (nI j).toInt = (j : Int) := nI_toInt (by omega)
  have e2 : (nI n - 1).toInt = (n : Int) - 1 := pk_sub_toInt (a := n) (b := 1) hn (by omega)
  unfold okS
  rw [Int32.le_iff_toInt_le, Int32.le_iff_toInt_le]
  omega
theorem okT_j {j n k : Nat} {im : Nat → Int32} (hj : j < 30) (hjn : j ≤ n) (hn : n ≤ 30) : okT (nI j) n k im ↔ k < 100 ∧ (j < n → im j = -1) := by
  unfold okT
  rw [okS_j (by omega) (by omega), nI_eq (by omega) (by omega), nI_clamp (by omega)]
  constructor
  · rintro ⟨h1, h2 | h2⟩
    · exact ⟨h1, fun _ => h2.2⟩
    · exact ⟨h1, fun z => absurd z h2.1⟩
  · rintro ⟨h1, h2⟩
    refine ⟨h1, ?_⟩
    rcases Nat.lt_or_ge j n with z | z
    · exact Or.inl ⟨z, h2 z⟩
    · exact Or.inr ⟨by omega, by omega, by omega⟩
abbrev mnB (n : Nat) : Int32 := if (29 : Int32) < nI n then 29 else nI n
theorem mnB_iff {b : Int32} {n : Nat} (hn : n ≤ 30) : (0 ≤ b ∧ b ≤ mnB n) ↔ ∃ j, b = nI j ∧ j ≤ n ∧ j < 30 := by
  have e0 : (0 : Int32).toInt = 0 := rfl
  have e29 : (29 : Int32).toInt = 29 := rfl
  have en : (nI n).toInt = (n : Int) := nI_toInt (by omega)
  constructor
  · rintro ⟨h1, h2⟩
    have hb : 0 ≤ b.toInt ∧ b.toInt ≤ n ∧ b.toInt < 30 := by
      rw [Int32.le_iff_toInt_le] at h1
      by_cases z : (29 : Int32) < nI n
      · rw [mnB, if_pos z, Int32.le_iff_toInt_le] at h2
        rw [Int32.lt_iff_toInt_lt] at z
        omega
      · rw [mnB, if_neg z, Int32.le_iff_toInt_le] at h2
        rw [Int32.lt_iff_toInt_lt] at z
        omega
    obtain ⟨j, h3, h4⟩ := vp_in_of (x := b) (n := 30) (vp_in_iff.mpr ⟨hb.1, hb.2.2⟩) (by omega)
    rw [h4, nI_toInt (by omega)] at hb
    exact ⟨j, h4, by omega, h3⟩
  · rintro ⟨j, rfl, h1, h2⟩
    have ej : (nI j).toInt = (j : Int) := nI_toInt (by omega)
    rw [Int32.le_iff_toInt_le]
    refine ⟨by omega, ?_⟩
    by_cases z : (29 : Int32) < nI n
    · rw [mnB, if_pos z, Int32.le_iff_toInt_le]; omega
    · rw [mnB, if_neg z, Int32.le_iff_toInt_le]; omega
def ce_X7_plan : rz_K := (5, kMb, 0, false, fun av w => ∃ (pa ci : Nat → Int32) (th po re nw si pl tr ca sp co b le du gr : Int32) (k n : Nat), av = [.ref 50, .int b, .int le, .int du, .int gr] ∧ w = wMb (oMo th po re nw si pl tr (nI n) (nI k) ca sp co) pa ci ∧ k ≤ 100 ∧ n ≤ 30, fun av w o w' => ∀ k n : Nat, rF w 50 14 = nI k → k ≤ 100 → rF w 50 13 = nI n → n ≤ 30 → if okQ (rA av 2) (rA av 3) (rA av 4) ∧ okT (rA av 1) n k (rI w 62) then rR o = rA av 1 ∧ ∃ j, rA av 1 = nI j ∧ j < 30 ∧ j ≤ n ∧ w' = rz_set (rz_set (mset (mset (mset w 0 0) 14 (nI (k + 1))) 13 (nI (if j = n then n + 1 else n))) 61 (ri 500 (cpN (tl5 (nI j) (rF w 50 9) (rA av 2) (rA av 3) (rA av 4)) (5 * k) (rI w 61) 5))) 62 (ri 30 (if j = n then upd (rI w 62) j (-1) else rI w 62)) else rR o = -1 ∧ w' = mset w 0 0)
def cl_X7_plan : List (Nat × rz_K) := [(87, ce_X7_isIn), (191, ce_J9_min_7cf53)]
def cv_X7_plan : List (Nat × rz_K) := []
set_option maxRecDepth 20000 in
theorem vc_X7_plan : rz_VCA [900] 1 5 k_X7_plan fl_X7 cl_X7_plan cv_X7_plan s_X7_plan false 7 ce_X7_plan := by
  intro av w hlen hk hpre
  obtain ⟨pa, ci, th, po, re, nw, si, pl, tr, ca, sp, co, b, le, du, gr, k, n, rfl, rfl, hk2, hn⟩ := hpre
  have no : ¬ (okQ le du gr ∧ okT b n k ci) → rz_endA [900] ce_X7_plan [.ref 50, .int b, .int le, .int du, .int gr] (wMb (oMo th po re nw si pl tr (nI n) (nI k) ca sp co) pa ci) (some (.int (-1))) (wMb (oMo 0 po re nw si pl tr (nI n) (nI k) ca sp co) pa ci) := by
    intro z1
    refine ⟨⟨0, rfl⟩, _, rfl, rfl, ⟨_, rfl⟩, fun z => (by cases z), ?_⟩
    intro k' n' e1 h1 e2 h2
    have e1 : k = k' := nI_inj (by omega) (by omega) e1
    have e2 : n = n' := nI_inj (by omega) (by omega) e2
    subst e1 e2
    exact if_no z1 ⟨rfl, rfl⟩
  refine ⟨Nat.le_of_ble_eq_true rfl, [
    (145, [0, 1, 5, 6], fun z lv w' => ∃ (j i : Nat), b = nI j ∧ j < 30 ∧ j ≤ n ∧ okQ le du gr ∧ okT b n k ci ∧ i ≤ 5 ∧ lv = [(0, .ref 50), (1, .int b), (5, .ref 900), (6, .int (nI i))] ∧ w' = [(50, oMo 0 po re nw si pl tr (nI (if j = n then n + 1 else n)) (nI k) ca sp co), (61, ri 500 (cpN (tl5 b nw le du gr) (5 * k) pa i)), (62, ri 30 (if j = n then upd ci j (-1) else ci)), (900, ri 5 (tl5 b nw le du gr))] ∧ z = 5 - i)], 150, 6, ?_, ?_⟩
  · intro y hq z lv w' hj
    rcases List.mem_cons.mp hq with rfl | hq
    · obtain ⟨j, i, hbj, hj30, hjn, hQ, hT, hi, rfl, rfl, rfl⟩ := hj
      have hk3 : k < 100 := hT.1
      conv => whnf
      refine ⟨fun c => ?_, fun c => ?_⟩
      · have c : nI 5 ≤ nI i := c
        have e : i = 5 := by
          have := (nI_leI (by omega) (by omega)).mp c
          omega
        subst e
        refine ⟨⟨1, rfl⟩, _, rfl, rfl, ⟨_, rfl⟩, fun z => (by cases z), ?_⟩
        intro k' n' e1 h1 e2 h2
        have e1 : k = k' := nI_inj (by omega) (by omega) e1
        have e2 : n = n' := nI_inj (by omega) (by omega) e2
        subst e1 e2
        refine if_yes ⟨hQ, hT⟩ ⟨rfl, j, hbj, hj30, hjn, ?_⟩
        show wMb (oMo 0 po re nw si pl tr (nI (if j = n then n + 1 else n)) (nI k + 1) ca sp co) (cpN (tl5 b nw le du gr) (5 * k) pa 5) (if j = n then upd ci j (-1) else ci) = _
        rw [nI_1, hbj]
        rfl
      · have c : ¬ nI 5 ≤ nI i := c
        have hi2 : i < 5 := by
          rcases Nat.lt_or_ge i 5 with z | z
          · exact z
          · exact absurd (nI_le z (by omega)) c
        have hcl : (nI i).toNatClampNeg = i := nI_clamp (by omega)
        have e : (5 : Int32) * nI k + nI i = nI (5 * k + i) := by
          show nI 5 * nI k + nI i = _
          rw [pk_mul, nI_add]
        have hv : vp_in ((5 : Int32) * nI k + nI i) 500 := by rw [e]; exact vp_in_nI (by omega) (by omega)
        conv => whnf
        refine ⟨vp_in_nI hi2 (by omega), ?_⟩
        conv => whnf
        refine ⟨hv, ?_⟩
        conv => whnf
        rintro _ rfl
        conv => whnf
        refine ⟨5 - (i + 1), by omega, j, i + 1, hbj, hj30, hjn, hQ, hT, by omega, ?_, ?_, rfl⟩
        · show [_, _, _, (6, Value.int (nI i + 1))] = _
          rw [nI_1]
        · show [_, (61, ri 500 (upd (cpN (tl5 b nw le du gr) (5 * k) pa i) ((5 : Int32) * nI k + nI i).toNatClampNeg (tl5 b nw le du gr (nI i).toNatClampNeg))), _, _] = _
          rw [hcl, e, nI_clamp (by omega)]
          rfl
    · exact absurd hq List.not_mem_nil
  · conv => whnf
    refine ⟨⟨_, _, rfl, rfl, trivial⟩, ?_⟩
    intro x hx
    obtain rfl : x = mnB n := hx
    conv => whnf
    refine ⟨⟨_, _, _, rfl, rfl, trivial⟩, ?_⟩
    intro r hr
    obtain rfl : r = bI (0 ≤ b ∧ b ≤ mnB n) := hr
    conv => whnf
    refine ⟨fun h0 => ?_, fun h0 => ?_⟩
    · exact no (fun z => bI_0 h0 ((mnB_iff hn).mpr (by obtain ⟨j, a1, a2, a3⟩ := okT_b z.2 hn; exact ⟨j, a1, a3, a2⟩)))
    · obtain ⟨j, rfl, hjn, hj30⟩ := (mnB_iff hn).mp (bI_n h0)
      conv => whnf
      refine ⟨⟨_, _, _, rfl, rfl, trivial⟩, ?_⟩
      intro r hr
      obtain rfl : r = bI (0 ≤ le ∧ le ≤ 20000) := hr
      conv => whnf
      refine ⟨fun h1 => ?_, fun h1 => ?_⟩
      · exact no (fun z => bI_0 h1 z.1.1)
      · conv => whnf
        refine ⟨⟨_, _, _, rfl, rfl, trivial⟩, ?_⟩
        intro r hr
        obtain rfl : r = bI (le ≤ du ∧ du ≤ 20000) := hr
        conv => whnf
        refine ⟨fun h2 => ?_, fun h2 => ?_⟩
        · exact no (fun z => bI_0 h2 z.1.2.1)
        · conv => whnf
          refine ⟨⟨_, _, _, rfl, rfl, trivial⟩, ?_⟩
          intro r hr
          obtain rfl : r = bI (0 ≤ gr ∧ gr ≤ 600) := hr
          conv => whnf
          refine ⟨fun h3 => ?_, fun h3 => ?_⟩
          · exact no (fun z => bI_0 h3 z.1.2.2)
          · have hQ : okQ le du gr := ⟨bI_n h1, bI_n h2, bI_n h3⟩
            conv => whnf
            refine ⟨fun h4 => ?_, fun h4 => ?_⟩
            · have h4 : nI k = nI 100 := h4
              have h4 := nI_inj (by omega) (by omega) h4
              exact no (fun z => by have := z.2.1; omega)
            · have h4 : ¬ nI k = nI 100 := h4
              have hk3 : k < 100 := by
                rcases Nat.lt_or_ge k 100 with q | q
                · exact q
                · exact absurd (congrArg nI (show k = 100 by omega)) h4
              have hcl : (nI j).toNatClampNeg = j := nI_clamp (by omega)
              conv => whnf
              refine ⟨fun h5 => ?_, fun h5 => ?_⟩
              · have h5 := (nI_leI (by omega) (by omega)).mp h5
                have ejn : j = n := by omega
                subst ejn
                have hT : okT (nI j) j k ci := (okT_j hj30 hjn hn).mpr ⟨hk3, fun z => absurd z (by omega)⟩
                have hv30 : vp_in (nI j) 30 := vp_in_nI hj30 (by omega)
                conv => whnf
                refine ⟨fun h6 => ?_, fun h6 => ?_⟩
                · conv => whnf
                  refine ⟨hv30, ?_⟩
                  conv => whnf
                  refine ⟨rfl, Nat.le_refl 1, Nat.le_refl 5, ?_⟩
                  conv => whnf
                  refine ⟨vp_in_iff.mpr (by decide), ?_⟩
                  conv => whnf
                  refine ⟨vp_in_iff.mpr (by decide), ?_⟩
                  conv => whnf
                  refine ⟨vp_in_iff.mpr (by decide), ?_⟩
                  conv => whnf
                  refine ⟨vp_in_iff.mpr (by decide), ?_⟩
                  conv => whnf
                  refine ⟨vp_in_iff.mpr (by decide), ?_⟩
                  conv => whnf
                  rintro _ rfl
                  conv => whnf
                  refine ⟨5, by omega, j, 0, rfl, hj30, hjn, hQ, hT, by omega, rfl, ?_, rfl⟩
                  rw [if_pos rfl, if_pos rfl, ← nI_1]
                  show [(50, _), (61, _), (62, ri 30 (upd ci (nI j).toNatClampNeg (-1))), (900, _)] = _
                  rw [hcl]
                  rfl
                · exact absurd rfl h6
              · have h5 : ¬ nI n ≤ nI j := h5
                have hj2 : j < n := by
                  rcases Nat.lt_or_ge j n with q | q
                  · exact q
                  · exact absurd (nI_le q (by omega)) h5
                have hv30 : vp_in (nI j) 30 := vp_in_nI hj30 (by omega)
                conv => whnf
                refine ⟨hv30, ?_⟩
                conv => whnf
                refine ⟨fun h6 => ?_, fun h6 => ?_⟩
                · have h6 : ci (nI j).toNatClampNeg = -1 := h6
                  rw [hcl] at h6
                  have hT : okT (nI j) n k ci := (okT_j hj30 hjn hn).mpr ⟨hk3, fun _ => h6⟩
                  conv => whnf
                  refine ⟨fun h7 => ?_, fun h7 => ?_⟩
                  · have h7 := nI_inj (by omega) (by omega) h7
                    omega
                  · conv => whnf
                    refine ⟨rfl, Nat.le_refl 1, Nat.le_refl 5, ?_⟩
                    conv => whnf
                    refine ⟨vp_in_iff.mpr (by decide), ?_⟩
                    conv => whnf
                    refine ⟨vp_in_iff.mpr (by decide), ?_⟩
                    conv => whnf
                    refine ⟨vp_in_iff.mpr (by decide), ?_⟩
                    conv => whnf
                    refine ⟨vp_in_iff.mpr (by decide), ?_⟩
                    conv => whnf
                    refine ⟨vp_in_iff.mpr (by decide), ?_⟩
                    conv => whnf
                    rintro _ rfl
                    conv => whnf
                    refine ⟨5, by omega, j, 0, rfl, hj30, hjn, hQ, hT, by omega, rfl, ?_, rfl⟩
                    rw [if_neg (by omega), if_neg (by omega)]
                    rfl
                · have h6 : ¬ ci (nI j).toNatClampNeg = -1 := h6
                  rw [hcl] at h6
                  exact no (fun z => h6 (((okT_j hj30 hjn hn).mp z.2).2 hj2))
theorem rv_X7_plan : rz_Rv yX7_plan.cls ce_X7_plan := fun av w h => by
  obtain ⟨_, _, _, _, _, _, _, _, _, _, _, _, _, _, _, _, _, _, rfl, rfl, _⟩ := h
  exact ⟨_, _, _, _, _, _, rfl, rfl, rfl⟩
theorem cn_X7_plan (l : Launch) : rz_Con l yX7_plan cX7_plan 7 (some .int) 1 1 5 ce_X7_plan := rz_conA (by decide +kernel) fo_X7 (by
  intro q hq
  rcases List.mem_cons.mp hq with rfl | hq
  · exact rz_callS (cn_X7_isIn l) (by decide +kernel) ⟨Nat.le_of_ble_eq_true rfl, Nat.le_of_ble_eq_true rfl⟩ m_X7_isIn t_X7_isIn n_X7_87
  rcases List.mem_cons.mp hq with rfl | hq
  · exact rz_callS (cn_J9_min_7cf53 l) (by decide +kernel) ⟨Nat.le_of_ble_eq_true rfl, Nat.le_of_ble_eq_true rfl⟩ m_J9_min_7cf53 t_J9_min_7cf53 n_X7_191
  exact absurd hq List.not_mem_nil) (fun _ h => absurd h List.not_mem_nil) r_X7_plan vc_X7_plan
end
section
/-! Shape of the class: half planes, corners, box. -/
def rP (av : List Value) (i : Nat) : Nat := match av[i]? with
  | some (.ref k) => k
  | _ => 0
def flr (t l : Int64) : Int64 := if 1 < l then fdv t l else t
def ovr (v g : Int64) : Int64 := if 1 < g then v / g else v
def ce_X4_floor : rz_K := (2, [], 1, true, fun av w => ∃ x y : Int64, av = [.long x, .long y] ∧ w = [] ∧ True, fun av _ o _ => rS o = flr (rB av 0) (rB av 1))
def cl_X4_floor : List (Nat × rz_K) := [(106, ce_J9_floorDiv_f86c9)]
def cv_X4_floor : List (Nat × rz_K) := []
theorem one_ne {y : Int64} (h : 1 < y) : ¬ y = 0 := fun z => by rw [z] at h; exact absurd h (by decide)
theorem vc_X4_floor : rz_VC k_X4_floor fl_X4 cl_X4_floor cv_X4_floor s_X4_floor false 4 ce_X4_floor := by
  intro av w hlen hk hpre
  obtain ⟨x, y, rfl, rfl, -⟩ := hpre
  refine ⟨Nat.le_of_ble_eq_true rfl, [], 60, 0, fun q h => absurd h List.not_mem_nil, ?_⟩
  conv => whnf
  refine ⟨fun h => ?_, fun h => ?_⟩
  · have h : ¬ 1 < y := (i64_not_lt _ _).mpr ((lg_le0 y 1).mp h)
    exact ⟨⟨_, rfl⟩, fun _ => rfl, (if_neg h).symm⟩
  · have h : 1 < y := (i64_not_le _ _).mp (fun z => h ((lg_le0 y 1).mpr z))
    conv => whnf
    refine ⟨⟨_, _, rfl, rfl, one_ne h⟩, ?_⟩
    intro r hr
    obtain rfl : r = fdv x y := hr
    conv => whnf
    exact ⟨⟨_, rfl⟩, fun _ => rfl, (if_pos h).symm⟩
theorem cn_X4_floor (l : Launch) : rz_Con l yX4_floor cX4_floor 4 (some .long) 1 0 0 ce_X4_floor := rz_con (by decide +kernel) fo_X4 (by
  intro q hq
  rcases List.mem_cons.mp hq with rfl | hq
  · exact rz_callS (cn_J9_floorDiv_f86c9 l) (by decide +kernel) ⟨Nat.le_of_ble_eq_true rfl, Nat.le_of_ble_eq_true rfl⟩ m_J9_floorDiv_f86c9 t_J9_floorDiv_f86c9 n_X4_106
  exact absurd hq List.not_mem_nil) (fun _ h => absurd h List.not_mem_nil) r_X4_floor vc_X4_floor
def ce_X4_over : rz_K := (2, [], 1, true, fun av w => ∃ x y : Int64, av = [.long x, .long y] ∧ w = [] ∧ True, fun av _ o _ => rS o = ovr (rB av 0) (rB av 1))
def cl_X4_over : List (Nat × rz_K) := []
def cv_X4_over : List (Nat × rz_K) := []
theorem vc_X4_over : rz_VC k_X4_over fl_X4 cl_X4_over cv_X4_over s_X4_over false 4 ce_X4_over := by
  intro av w hlen hk hpre
  obtain ⟨x, y, rfl, rfl, -⟩ := hpre
  refine ⟨Nat.le_of_ble_eq_true rfl, [], 60, 0, fun q h => absurd h List.not_mem_nil, ?_⟩
  conv => whnf
  refine ⟨fun h => ?_, fun h => ?_⟩
  · have h : ¬ 1 < y := (i64_not_lt _ _).mpr ((lg_le0 y 1).mp h)
    exact ⟨⟨_, rfl⟩, fun _ => rfl, (if_neg h).symm⟩
  · have h : 1 < y := (i64_not_le _ _).mp (fun z => h ((lg_le0 y 1).mpr z))
    conv => whnf
    refine ⟨one_ne h, ?_⟩
    conv => whnf
    exact ⟨⟨_, rfl⟩, fun _ => rfl, (if_pos h).symm⟩
theorem cn_X4_over (l : Launch) : rz_Con l yX4_over cX4_over 4 (some .long) 0 0 0 ce_X4_over := rz_con (by decide +kernel) fo_X4 (fun _ h => absurd h List.not_mem_nil) (fun _ h => absurd h List.not_mem_nil) r_X4_over vc_X4_over
def abL (x : Int64) : Int64 := if 0 ≤ x then x else -x
def cdF : Nat → Int64 → Int64 → Int64
  | 0, l, _ => l
  | n + 1, l, s => if s = 0 then l else cdF n s (l - l / s * s)
def ce_X4_commonDivisor : rz_K := (2, [], 1, true, fun av w => ∃ x y : Int64, av = [.long x, .long y] ∧ w = [] ∧ True, fun av _ o _ => rS o = cdF 128 (abL (rB av 0)) (abL (rB av 1)))
def cl_X4_commonDivisor : List (Nat × rz_K) := [(72, ce_J9_abs_067f4)]
def cv_X4_commonDivisor : List (Nat × rz_K) := []
theorem vc_X4_commonDivisor : rz_VC k_X4_commonDivisor fl_X4 cl_X4_commonDivisor cv_X4_commonDivisor s_X4_commonDivisor false 11 ce_X4_commonDivisor := by
  intro av w hlen hk hpre
  obtain ⟨x, y, rfl, rfl, -⟩ := hpre
  refine ⟨Nat.le_of_ble_eq_true rfl, [(15, [4, 6, 8], fun z lv w' => ∃ (i : Nat) (l t : Int64), i ≤ 128 ∧ cdF 128 (abL x) (abL y) = cdF (128 - i) l t ∧ lv = [(4, .long l), (6, .long t), (8, .int (nI i))] ∧ w' = [] ∧ z = 128 - i)], 60, 129, ?_, ?_⟩
  · intro y1 hq z lv w' hj
    rcases List.mem_cons.mp hq with rfl | hq
    · obtain ⟨i, l, t, hi, hcd, rfl, rfl, rfl⟩ := hj
      have fin : ∀ v, v = cdF 128 (abL x) (abL y) → rz_end ce_X4_commonDivisor [.long x, .long y] [] (some (.long v)) [] := fun v hv => ⟨⟨_, rfl⟩, fun _ => rfl, hv⟩
      conv => whnf
      refine ⟨fun c => ?_, fun c => ?_⟩
      · have c : nI 128 ≤ nI i := c
        have e : i = 128 := by
          have := (nI_leI (by omega) (by omega)).mp c
          omega
        subst e
        exact fin _ hcd.symm
      · have c : ¬ nI 128 ≤ nI i := c
        have hi2 : i < 128 := by
          rcases Nat.lt_or_ge i 128 with z | z
          · exact z
          · exact absurd (nI_le z (by omega)) c
        obtain ⟨d, hd⟩ : ∃ d, 128 - i = d + 1 := ⟨128 - i - 1, by omega⟩
        have hu : cdF (128 - i) l t = if t = 0 then l else cdF d t (l - l / t * t) := by rw [hd]; rfl
        conv => whnf
        refine ⟨fun c2 => ?_, fun c2 => ?_⟩
        · have c2 : t = 0 := (lg_eq0 t 0).mp c2
          exact fin _ (by rw [hcd, hu, if_pos c2])
        · have c2 : ¬ t = 0 := fun z => c2 ((lg_eq0 t 0).mpr z)
          conv => whnf
          refine ⟨c2, ?_⟩
          conv => whnf
          intro r1 er1
          conv => whnf
          intro l1 el1
          conv => whnf
          intro t1 et1
          conv => whnf
          rintro _ rfl
          subst et1 el1 er1
          conv => whnf
          refine ⟨128 - (i + 1), by omega, i + 1, l1, l - l / l1 * l1, by omega, ?_, ?_, rfl, rfl⟩
          · rw [hcd, hu, if_neg c2, show 128 - (i + 1) = d by omega]
          · show [_, _, (8, Value.int (nI i + 1))] = _
            rw [nI_1]
    · exact absurd hq List.not_mem_nil
  · conv => whnf
    refine ⟨⟨_, rfl, rfl, trivial⟩, ?_⟩
    intro r hr
    obtain rfl : r = abL x := hr
    conv => whnf
    rintro _ rfl
    conv => whnf
    refine ⟨⟨_, rfl, rfl, trivial⟩, ?_⟩
    intro r hr
    obtain rfl : r = abL y := hr
    conv => whnf
    rintro _ rfl
    conv => whnf
    rintro _ rfl
    conv => whnf
    refine ⟨128, by omega, 0, abL x, abL y, by omega, rfl, rfl, rfl, rfl⟩
theorem cn_X4_commonDivisor (l : Launch) : rz_Con l yX4_commonDivisor cX4_commonDivisor 11 (some .long) 1 0 0 ce_X4_commonDivisor := rz_con (by decide +kernel) fo_X4 (by
  intro q hq
  rcases List.mem_cons.mp hq with rfl | hq
  · exact rz_callS (cn_J9_abs_067f4 l) (by decide +kernel) ⟨Nat.le_of_ble_eq_true rfl, Nat.le_of_ble_eq_true rfl⟩ m_J9_abs_067f4 t_J9_abs_067f4 n_X4_72
  exact absurd hq List.not_mem_nil) (fun _ h => absurd h List.not_mem_nil) r_X4_commonDivisor vc_X4_commonDivisor
def ce_X4_putLeftSide : rz_K := (6, kSh, 2, false, fun av w => ∃ (a b c ex ey tx lx ty ly : Nat → Int64) (co s x y dx dy : Int32), av = [.ref 17, .int s, .int x, .int y, .int dx, .int dy] ∧ w = wSh a b c ex ey tx lx ty ly co ∧ vp_in s 4, fun av w _ w' => w' = wSh (vp_updL (rJ w 18) (rA av 1).toNatClampNeg (-(rA av 5)).toInt64) (vp_updL (rJ w 19) (rA av 1).toNatClampNeg (rA av 4).toInt64) (vp_updL (rJ w 20) (rA av 1).toNatClampNeg (-(rA av 5) * rA av 2 + rA av 4 * rA av 3).toInt64) (rJ w 21) (rJ w 22) (rJ w 23) (rJ w 24) (rJ w 25) (rJ w 26) (rF w 17 9))
def cl_X4_putLeftSide : List (Nat × rz_K) := []
def cv_X4_putLeftSide : List (Nat × rz_K) := []
theorem vc_X4_putLeftSide : rz_VC k_X4_putLeftSide fl_X4 cl_X4_putLeftSide cv_X4_putLeftSide s_X4_putLeftSide false 6 ce_X4_putLeftSide := by
  intro av w hlen hk hpre
  obtain ⟨a, b, c, ex, ey, tx, lx, ty, ly, co, s, x, y, dx, dy, rfl, rfl, hs⟩ := hpre
  refine ⟨Nat.le_of_ble_eq_true rfl, [], 60, 0, fun q h => absurd h List.not_mem_nil, ?_⟩
  conv => whnf
  refine ⟨hs, ?_⟩
  conv => whnf
  refine ⟨hs, ?_⟩
  conv => whnf
  refine ⟨hs, ?_⟩
  conv => whnf
  exact ⟨rfl, fun z => (by cases z), rfl⟩
theorem rv_X4_putLeftSide : rz_Rv yX4_putLeftSide.cls ce_X4_putLeftSide := fun av w h => by
  obtain ⟨_, _, _, _, _, _, _, _, _, _, _, _, _, _, _, rfl, rfl, _⟩ := h
  exact ⟨_, _, _, _, _, _, rfl, rfl, rfl⟩
theorem cn_X4_putLeftSide (l : Launch) : rz_Con l yX4_putLeftSide cX4_putLeftSide 6 none 0 0 0 ce_X4_putLeftSide := rz_con (by decide +kernel) fo_X4 (fun _ h => absurd h List.not_mem_nil) (fun _ h => absurd h List.not_mem_nil) r_X4_putLeftSide vc_X4_putLeftSide
def ce_X4_putEdge : rz_K := (4, kSh, 2, false, fun av w => ∃ (a b c ex ey tx lx ty ly : Nat → Int64) (co s dx dy : Int32), av = [.ref 17, .int s, .int dx, .int dy] ∧ w = wSh a b c ex ey tx lx ty ly co ∧ vp_in s 4, fun av w _ w' => w' = wSh (rJ w 18) (rJ w 19) (rJ w 20) (vp_updL (rJ w 21) (rA av 1).toNatClampNeg (rA av 2).toInt64) (vp_updL (rJ w 22) (rA av 1).toNatClampNeg (rA av 3).toInt64) (rJ w 23) (rJ w 24) (rJ w 25) (rJ w 26) (rF w 17 9))
def cl_X4_putEdge : List (Nat × rz_K) := []
def cv_X4_putEdge : List (Nat × rz_K) := []
theorem vc_X4_putEdge : rz_VC k_X4_putEdge fl_X4 cl_X4_putEdge cv_X4_putEdge s_X4_putEdge false 4 ce_X4_putEdge := by
  intro av w hlen hk hpre
  obtain ⟨a, b, c, ex, ey, tx, lx, ty, ly, co, s, dx, dy, rfl, rfl, hs⟩ := hpre
  refine ⟨Nat.le_of_ble_eq_true rfl, [], 60, 0, fun q h => absurd h List.not_mem_nil, ?_⟩
  conv => whnf
  refine ⟨hs, ?_⟩
  conv => whnf
  refine ⟨hs, ?_⟩
  conv => whnf
  exact ⟨rfl, fun z => (by cases z), rfl⟩
theorem rv_X4_putEdge : rz_Rv yX4_putEdge.cls ce_X4_putEdge := fun av w h => by
  obtain ⟨_, _, _, _, _, _, _, _, _, _, _, _, _, rfl, rfl, _⟩ := h
  exact ⟨_, _, _, _, _, _, rfl, rfl, rfl⟩
theorem cn_X4_putEdge (l : Launch) : rz_Con l yX4_putEdge cX4_putEdge 4 none 0 0 0 ce_X4_putEdge := rz_con (by decide +kernel) fo_X4 (fun _ h => absurd h List.not_mem_nil) (fun _ h => absurd h List.not_mem_nil) r_X4_putEdge vc_X4_putEdge
/-- in all four half planes -/
abbrev inP (a b c : Nat → Int64) (x y d : Int64) (i : Nat) : Prop := c i * d ≤ a i * x + b i * y
abbrev inA (a b c : Nat → Int64) (x y d : Int64) : Prop := inP a b c x y d 0 ∧ inP a b c x y d 1 ∧ inP a b c x y d 2 ∧ inP a b c x y d 3
theorem nI4 (i : Nat) (h : i < 4) : vp_in (nI i) 4 := vp_in_nI h (by omega)
theorem all4 {p : Nat → Prop} (h : ∀ j, j < 4 → p j) : p 0 ∧ p 1 ∧ p 2 ∧ p 3 := ⟨h 0 (by omega), h 1 (by omega), h 2 (by omega), h 3 (by omega)⟩
theorem all4' {p : Nat → Prop} (h : p 0 ∧ p 1 ∧ p 2 ∧ p 3) : ∀ j, j < 4 → p j := fun j hj => by
  match j, hj with
  | 0, _ => exact h.1
  | 1, _ => exact h.2.1
  | 2, _ => exact h.2.2.1
  | 3, _ => exact h.2.2.2
def ce_X4_isInside : rz_K := (4, kSh, 0, true, fun av w => ∃ (a b c ex ey tx lx ty ly : Nat → Int64) (co : Int32) (x y d : Int64), av = [.ref 17, .long x, .long y, .long d] ∧ w = wSh a b c ex ey tx lx ty ly co ∧ True, fun av w o _ => rR o = bI (inA (rJ w 18) (rJ w 19) (rJ w 20) (rB av 1) (rB av 2) (rB av 3)))
def cl_X4_isInside : List (Nat × rz_K) := []
def cv_X4_isInside : List (Nat × rz_K) := []
theorem vc_X4_isInside : rz_VC k_X4_isInside fl_X4 cl_X4_isInside cv_X4_isInside s_X4_isInside true 8 ce_X4_isInside := by
  intro av w hlen hk hpre
  obtain ⟨a, b, c, ex, ey, tx, lx, ty, ly, co, x, y, d, rfl, rfl, -⟩ := hpre
  refine ⟨Nat.le_of_ble_eq_true rfl, [(3, [0, 1, 3, 5, 7], fun z lv w' => ∃ i : Nat, i ≤ 4 ∧ (∀ j, j < i → inP a b c x y d j) ∧ lv = [(0, .ref 17), (1, .long x), (3, .long y), (5, .long d), (7, .int (nI i))] ∧ w' = wSh a b c ex ey tx lx ty ly co ∧ z = 4 - i)], 60, 5, ?_, ?_⟩
  · intro y1 hq z lv w' hj
    rcases List.mem_cons.mp hq with rfl | hq
    · obtain ⟨i, hi, hall, rfl, rfl, rfl⟩ := hj
      conv => whnf
      refine ⟨fun k => ?_, fun k => ?_⟩
      · have k : nI 4 ≤ nI i := k
        have e : i = 4 := by
          have := (nI_leI (by omega) (by omega)).mp k
          omega
        subst e
        exact ⟨Or.inr rfl, ⟨_, rfl⟩, fun _ => rfl, bI_t (all4 hall)⟩
      · have k : ¬ nI 4 ≤ nI i := k
        have hi2 : i < 4 := by
          rcases Nat.lt_or_ge i 4 with z | z
          · exact z
          · exact absurd (nI_le z (by omega)) k
        have hcl : (nI i).toNatClampNeg = i := nI_clamp (by omega)
        conv => whnf
        refine ⟨nI4 i hi2, ?_⟩
        conv => whnf
        refine ⟨nI4 i hi2, ?_⟩
        conv => whnf
        refine ⟨nI4 i hi2, ?_⟩
        conv => whnf
        refine ⟨fun k2 => ?_, fun k2 => ?_⟩
        · have k2 : c (nI i).toNatClampNeg * d ≤ a (nI i).toNatClampNeg * x + b (nI i).toNatClampNeg * y := (lg_ge0 _ _).mp k2
          rw [hcl] at k2
          conv => whnf
          rintro _ rfl
          conv => whnf
          refine ⟨4 - (i + 1), by omega, i + 1, by omega, lt_s hall k2, ?_, rfl, rfl⟩
          show [_, _, _, _, (7, Value.int (nI i + 1))] = _
          rw [nI_1]
        · have k2 : ¬ c (nI i).toNatClampNeg * d ≤ a (nI i).toNatClampNeg * x + b (nI i).toNatClampNeg * y := fun z => k2 ((lg_ge0 _ _).mpr z)
          rw [hcl] at k2
          exact ⟨Or.inl rfl, ⟨_, rfl⟩, fun _ => rfl, bI_f (fun z => k2 (all4' z i hi2))⟩
    · exact absurd hq List.not_mem_nil
  · conv => whnf
    rintro _ rfl
    conv => whnf
    refine ⟨4, by omega, 0, by omega, lt_0, rfl, rfl, rfl⟩
theorem rv_X4_isInside : rz_Rv yX4_isInside.cls ce_X4_isInside := fun av w h => by
  obtain ⟨_, _, _, _, _, _, _, _, _, _, _, _, _, rfl, rfl, _⟩ := h
  exact ⟨_, _, _, _, _, _, rfl, rfl, rfl⟩
theorem cn_X4_isInside (l : Launch) : rz_Con l yX4_isInside cX4_isInside 8 (some .boolean) 0 0 0 ce_X4_isInside := rz_con (by decide +kernel) fo_X4 (fun _ h => absurd h List.not_mem_nil) (fun _ h => absurd h List.not_mem_nil) r_X4_isInside vc_X4_isInside
abbrev ruP (a b : Nat → Int64) (x y : Int64) (i : Nat) : Prop := 0 ≤ a i * x + b i * y
abbrev ruA (a b : Nat → Int64) (x y : Int64) : Prop := ruP a b x y 0 ∧ ruP a b x y 1 ∧ ruP a b x y 2 ∧ ruP a b x y 3
def ce_X4_runsInside : rz_K := (3, kSh, 0, true, fun av w => ∃ (a b c ex ey tx lx ty ly : Nat → Int64) (co : Int32) (x y : Int64), av = [.ref 17, .long x, .long y] ∧ w = wSh a b c ex ey tx lx ty ly co ∧ True, fun av w o _ => rR o = bI (ruA (rJ w 18) (rJ w 19) (rB av 1) (rB av 2)))
def cl_X4_runsInside : List (Nat × rz_K) := []
def cv_X4_runsInside : List (Nat × rz_K) := []
theorem vc_X4_runsInside : rz_VC k_X4_runsInside fl_X4 cl_X4_runsInside cv_X4_runsInside s_X4_runsInside true 6 ce_X4_runsInside := by
  intro av w hlen hk hpre
  obtain ⟨a, b, c, ex, ey, tx, lx, ty, ly, co, x, y, rfl, rfl, -⟩ := hpre
  refine ⟨Nat.le_of_ble_eq_true rfl, [(3, [0, 1, 3, 5], fun z lv w' => ∃ i : Nat, i ≤ 4 ∧ (∀ j, j < i → ruP a b x y j) ∧ lv = [(0, .ref 17), (1, .long x), (3, .long y), (5, .int (nI i))] ∧ w' = wSh a b c ex ey tx lx ty ly co ∧ z = 4 - i)], 60, 5, ?_, ?_⟩
  · intro y1 hq z lv w' hj
    rcases List.mem_cons.mp hq with rfl | hq
    · obtain ⟨i, hi, hall, rfl, rfl, rfl⟩ := hj
      conv => whnf
      refine ⟨fun k => ?_, fun k => ?_⟩
      · have k : nI 4 ≤ nI i := k
        have e : i = 4 := by
          have := (nI_leI (by omega) (by omega)).mp k
          omega
        subst e
        exact ⟨Or.inr rfl, ⟨_, rfl⟩, fun _ => rfl, bI_t (all4 hall)⟩
      · have k : ¬ nI 4 ≤ nI i := k
        have hi2 : i < 4 := by
          rcases Nat.lt_or_ge i 4 with z | z
          · exact z
          · exact absurd (nI_le z (by omega)) k
        have hcl : (nI i).toNatClampNeg = i := nI_clamp (by omega)
        conv => whnf
        refine ⟨nI4 i hi2, ?_⟩
        conv => whnf
        refine ⟨nI4 i hi2, ?_⟩
        conv => whnf
        refine ⟨fun k2 => ?_, fun k2 => ?_⟩
        · have k2 : 0 ≤ a (nI i).toNatClampNeg * x + b (nI i).toNatClampNeg * y := (lg_ge0 _ _).mp k2
          rw [hcl] at k2
          conv => whnf
          rintro _ rfl
          conv => whnf
          refine ⟨4 - (i + 1), by omega, i + 1, by omega, lt_s hall k2, ?_, rfl, rfl⟩
          show [_, _, _, (5, Value.int (nI i + 1))] = _
          rw [nI_1]
        · have k2 : ¬ 0 ≤ a (nI i).toNatClampNeg * x + b (nI i).toNatClampNeg * y := fun z => k2 ((lg_ge0 _ _).mpr z)
          rw [hcl] at k2
          exact ⟨Or.inl rfl, ⟨_, rfl⟩, fun _ => rfl, bI_f (fun z => k2 (all4' z i hi2))⟩
    · exact absurd hq List.not_mem_nil
  · conv => whnf
    rintro _ rfl
    conv => whnf
    refine ⟨4, by omega, 0, by omega, lt_0, rfl, rfl, rfl⟩
theorem rv_X4_runsInside : rz_Rv yX4_runsInside.cls ce_X4_runsInside := fun av w h => by
  obtain ⟨_, _, _, _, _, _, _, _, _, _, _, _, rfl, rfl, _⟩ := h
  exact ⟨_, _, _, _, _, _, rfl, rfl, rfl⟩
theorem cn_X4_runsInside (l : Launch) : rz_Con l yX4_runsInside cX4_runsInside 6 (some .boolean) 0 0 0 ce_X4_runsInside := rz_con (by decide +kernel) fo_X4 (fun _ h => absurd h List.not_mem_nil) (fun _ h => absurd h List.not_mem_nil) r_X4_runsInside vc_X4_runsInside
abbrev enA (a b ex ey : Nat → Int64) : Prop := ruA a b (ex 0) (ey 0) ∨ ruA a b (ex 1) (ey 1) ∨ ruA a b (ex 2) (ey 2) ∨ ruA a b (ex 3) (ey 3)
theorem no4 {p : Nat → Prop} (h : ∀ j, j < 4 → ¬ p j) : ¬ (p 0 ∨ p 1 ∨ p 2 ∨ p 3) := fun z => by
  rcases z with z | z | z | z
  · exact h 0 (by omega) z
  · exact h 1 (by omega) z
  · exact h 2 (by omega) z
  · exact h 3 (by omega) z
theorem or4 {p : Nat → Prop} {j : Nat} (hj : j < 4) (h : p j) : p 0 ∨ p 1 ∨ p 2 ∨ p 3 := by
  match j, hj, h with
  | 0, _, h => exact Or.inl h
  | 1, _, h => exact Or.inr (Or.inl h)
  | 2, _, h => exact Or.inr (Or.inr (Or.inl h))
  | 3, _, h => exact Or.inr (Or.inr (Or.inr h))
def ce_X4_isEndless : rz_K := (1, kSh, 0, true, fun av w => ∃ (a b c ex ey tx lx ty ly : Nat → Int64) (co : Int32), av = [.ref 17] ∧ w = wSh a b c ex ey tx lx ty ly co ∧ True, fun _ w o _ => rR o = bI (enA (rJ w 18) (rJ w 19) (rJ w 21) (rJ w 22)))
def cl_X4_isEndless : List (Nat × rz_K) := []
def cv_X4_isEndless : List (Nat × rz_K) := [(82, ce_X4_runsInside)]
theorem vc_X4_isEndless : rz_VC k_X4_isEndless fl_X4 cl_X4_isEndless cv_X4_isEndless s_X4_isEndless true 2 ce_X4_isEndless := by
  intro av w hlen hk hpre
  obtain ⟨a, b, c, ex, ey, tx, lx, ty, ly, co, rfl, rfl, -⟩ := hpre
  refine ⟨Nat.le_of_ble_eq_true rfl, [(2, [0, 1], fun z lv w' => ∃ i : Nat, i ≤ 4 ∧ (∀ j, j < i → ¬ ruA a b (ex j) (ey j)) ∧ lv = [(0, .ref 17), (1, .int (nI i))] ∧ w' = wSh a b c ex ey tx lx ty ly co ∧ z = 4 - i)], 60, 5, ?_, ?_⟩
  · intro y1 hq z lv w' hj
    rcases List.mem_cons.mp hq with rfl | hq
    · obtain ⟨i, hi, hall, rfl, rfl, rfl⟩ := hj
      conv => whnf
      refine ⟨fun k => ?_, fun k => ?_⟩
      · have k : nI 4 ≤ nI i := k
        have e : i = 4 := by
          have := (nI_leI (by omega) (by omega)).mp k
          omega
        subst e
        exact ⟨Or.inl rfl, ⟨_, rfl⟩, fun _ => rfl, bI_f (no4 hall)⟩
      · have k : ¬ nI 4 ≤ nI i := k
        have hi2 : i < 4 := by
          rcases Nat.lt_or_ge i 4 with z | z
          · exact z
          · exact absurd (nI_le z (by omega)) k
        have hcl : (nI i).toNatClampNeg = i := nI_clamp (by omega)
        conv => whnf
        refine ⟨nI4 i hi2, ?_⟩
        conv => whnf
        refine ⟨nI4 i hi2, ?_⟩
        conv => whnf
        refine ⟨⟨a, b, c, ex, ey, tx, lx, ty, ly, co, _, _, rfl, rfl, trivial⟩, ?_⟩
        intro r hr
        have hr : r = bI (ruA a b (ex (nI i).toNatClampNeg) (ey (nI i).toNatClampNeg)) := hr
        rw [hcl] at hr
        subst hr
        conv => whnf
        refine ⟨fun k2 => ?_, fun k2 => ?_⟩
        · conv => whnf
          rintro _ rfl
          conv => whnf
          refine ⟨4 - (i + 1), by omega, i + 1, by omega, lt_s hall (bI_0 k2), ?_, rfl, rfl⟩
          show [_, (1, Value.int (nI i + 1))] = _
          rw [nI_1]
        · exact ⟨Or.inr rfl, ⟨_, rfl⟩, fun _ => rfl, bI_t (or4 (p := fun j => ruA a b (ex j) (ey j)) hi2 (bI_n k2))⟩
    · exact absurd hq List.not_mem_nil
  · conv => whnf
    rintro _ rfl
    conv => whnf
    refine ⟨4, by omega, 0, by omega, lt_0, rfl, rfl, rfl⟩
theorem rv_X4_isEndless : rz_Rv yX4_isEndless.cls ce_X4_isEndless := fun av w h => by
  obtain ⟨_, _, _, _, _, _, _, _, _, _, rfl, rfl, _⟩ := h
  exact ⟨_, _, _, _, _, _, rfl, rfl, rfl⟩
theorem cn_X4_isEndless (l : Launch) : rz_Con l yX4_isEndless cX4_isEndless 2 (some .boolean) 1 0 0 ce_X4_isEndless := rz_con (by decide +kernel) fo_X4 (fun _ h => absurd h List.not_mem_nil) (by
  intro q hq
  rcases List.mem_cons.mp hq with rfl | hq
  · exact rz_callV (cn_X4_runsInside l) (by decide +kernel) ⟨Nat.le_of_ble_eq_true rfl, Nat.le_of_ble_eq_true rfl⟩ m_X4_runsInside rfl i_X4_runsInside v_X4_runsInside rv_X4_runsInside n_X4_82
  exact absurd hq List.not_mem_nil) r_X4_isEndless vc_X4_isEndless
def ce_X4_kind : rz_K := (1, kSh, 0, true, fun av w => ∃ (a b c ex ey tx lx ty ly : Nat → Int64) (co : Int32), av = [.ref 17] ∧ w = wSh a b c ex ey tx lx ty ly co ∧ True, fun _ w o _ => rR o = if rF w 17 9 = 0 then 0 else if enA (rJ w 18) (rJ w 19) (rJ w 21) (rJ w 22) then 2 else 1)
def cl_X4_kind : List (Nat × rz_K) := []
def cv_X4_kind : List (Nat × rz_K) := [(78, ce_X4_isEndless)]
theorem vc_X4_kind : rz_VC k_X4_kind fl_X4 cl_X4_kind cv_X4_kind s_X4_kind false 1 ce_X4_kind := by
  intro av w hlen hk hpre
  obtain ⟨a, b, c, ex, ey, tx, lx, ty, ly, co, rfl, rfl, -⟩ := hpre
  refine ⟨Nat.le_of_ble_eq_true rfl, [], 60, 0, fun q h => absurd h List.not_mem_nil, ?_⟩
  have fin : ∀ v : Int32, (v = if co = 0 then 0 else if enA a b ex ey then 2 else 1) → rz_end ce_X4_kind [.ref 17] (wSh a b c ex ey tx lx ty ly co) (some (.int v)) (wSh a b c ex ey tx lx ty ly co) := fun v hv => ⟨⟨_, rfl⟩, fun _ => rfl, hv⟩
  conv => whnf
  refine ⟨fun h => ?_, fun h => ?_⟩
  · exact fin _ (by rw [if_pos h])
  · conv => whnf
    refine ⟨⟨a, b, c, ex, ey, tx, lx, ty, ly, co, rfl, rfl, trivial⟩, ?_⟩
    intro r hr
    obtain rfl : r = bI (enA a b ex ey) := hr
    conv => whnf
    refine ⟨fun h2 => ?_, fun h2 => ?_⟩
    · exact fin _ (by rw [if_neg h, if_neg (bI_0 h2)])
    · exact fin _ (by rw [if_neg h, if_pos (bI_n h2)])
theorem rv_X4_kind : rz_Rv yX4_kind.cls ce_X4_kind := fun av w h => by
  obtain ⟨_, _, _, _, _, _, _, _, _, _, rfl, rfl, _⟩ := h
  exact ⟨_, _, _, _, _, _, rfl, rfl, rfl⟩
theorem cn_X4_kind (l : Launch) : rz_Con l yX4_kind cX4_kind 1 (some .int) 2 0 0 ce_X4_kind := rz_con (by decide +kernel) fo_X4 (fun _ h => absurd h List.not_mem_nil) (by
  intro q hq
  rcases List.mem_cons.mp hq with rfl | hq
  · exact rz_callV (cn_X4_isEndless l) (by decide +kernel) ⟨Nat.le_of_ble_eq_true rfl, Nat.le_of_ble_eq_true rfl⟩ m_X4_isEndless rfl i_X4_isEndless v_X4_isEndless rv_X4_isEndless n_X4_78
  exact absurd hq List.not_mem_nil) r_X4_kind vc_X4_kind
/-- how corner k lies to (x, y) over d -/
def orF (tx lx ty ly : Nat → Int64) (k : Nat) (x y d : Int64) : Int32 := if ¬ lg_cmp (tx k * d) (x * lx k) = 0 then lg_cmp (tx k * d) (x * lx k) else lg_cmp (ty k * d) (y * ly k)
def ce_X4_order : rz_K := (5, kSh, 0, true, fun av w => ∃ (a b c ex ey tx lx ty ly : Nat → Int64) (co : Int32) (k : Nat) (x y d : Int64), av = [.ref 17, .int (nI k), .long x, .long y, .long d] ∧ w = wSh a b c ex ey tx lx ty ly co ∧ k < 6, fun av w o _ => ∀ k, rA av 1 = nI k → k < 6 → rR o = orF (rJ w 23) (rJ w 24) (rJ w 25) (rJ w 26) k (rB av 2) (rB av 3) (rB av 4))
def cl_X4_order : List (Nat × rz_K) := [(66, ce_J13_compare_74951)]
def cv_X4_order : List (Nat × rz_K) := []
theorem vc_X4_order : rz_VC k_X4_order fl_X4 cl_X4_order cv_X4_order s_X4_order false 9 ce_X4_order := by
  intro av w hlen hk hpre
  obtain ⟨a, b, c, ex, ey, tx, lx, ty, ly, co, k, x, y, d, rfl, rfl, hk6⟩ := hpre
  refine ⟨Nat.le_of_ble_eq_true rfl, [], 60, 0, fun q h => absurd h List.not_mem_nil, ?_⟩
  have hcl : (nI k).toNatClampNeg = k := nI_clamp (by omega)
  have hv : vp_in (nI k) 6 := vp_in_nI hk6 (by omega)
  have fin : ∀ v : Int32, v = orF tx lx ty ly k x y d → rz_end ce_X4_order [.ref 17, .int (nI k), .long x, .long y, .long d] (wSh a b c ex ey tx lx ty ly co) (some (.int v)) (wSh a b c ex ey tx lx ty ly co) := by
    intro v hv
    refine ⟨⟨_, rfl⟩, fun _ => rfl, ?_⟩
    intro k' e1 h1
    have e1 : k = k' := nI_inj (by omega) (by omega) e1
    subst e1
    exact hv
  conv => whnf
  refine ⟨hv, ?_⟩
  conv => whnf
  refine ⟨hv, ?_⟩
  conv => whnf
  refine ⟨⟨_, _, rfl, rfl, trivial⟩, ?_⟩
  intro r hr
  have hr : r = lg_cmp (tx (nI k).toNatClampNeg * d) (x * lx (nI k).toNatClampNeg) := hr
  rw [hcl] at hr
  subst hr
  conv => whnf
  rintro _ rfl
  conv => whnf
  refine ⟨fun h => ?_, fun h => ?_⟩
  · conv => whnf
    refine ⟨hv, ?_⟩
    conv => whnf
    refine ⟨hv, ?_⟩
    conv => whnf
    refine ⟨⟨_, _, rfl, rfl, trivial⟩, ?_⟩
    intro r hr
    have hr : r = lg_cmp (ty (nI k).toNatClampNeg * d) (y * ly (nI k).toNatClampNeg) := hr
    rw [hcl] at hr
    subst hr
    conv => whnf
    exact fin _ (if_neg (fun z => z h)).symm
  · exact fin _ (if_pos h).symm
theorem rv_X4_order : rz_Rv yX4_order.cls ce_X4_order := fun av w h => by
  obtain ⟨_, _, _, _, _, _, _, _, _, _, _, _, _, _, rfl, rfl, _⟩ := h
  exact ⟨_, _, _, _, _, _, rfl, rfl, rfl⟩
theorem cn_X4_order (l : Launch) : rz_Con l yX4_order cX4_order 9 (some .int) 1 0 0 ce_X4_order := rz_con (by decide +kernel) fo_X4 (by
  intro q hq
  rcases List.mem_cons.mp hq with rfl | hq
  · exact rz_callS (cn_J13_compare_74951 l) (by decide +kernel) ⟨Nat.le_of_ble_eq_true rfl, Nat.le_of_ble_eq_true rfl⟩ m_J13_compare_74951 t_J13_compare_74951 n_X4_66
  exact absurd hq List.not_mem_nil) (fun _ h => absurd h List.not_mem_nil) r_X4_order vc_X4_order
end
section
/-! Shape: corners put in, in order; box. -/
def insA (f : Nat → Int64) (n t : Nat) (x : Int64) : Nat → Int64 := fun j => if j < t then f j else if j = t then x else if j ≤ n then f (j - 1) else f j
def shA (f : Nat → Int64) (n i : Nat) : Nat → Int64 := fun j => if i < j ∧ j ≤ n then f (j - 1) else f j
theorem shA_n (f : Nat → Int64) (n : Nat) : shA f n n = f := by
  funext j
  unfold shA
  rw [if_neg (by omega)]
theorem shA_s (f : Nat → Int64) {n i : Nat} (h : i < n) : vp_updL (shA f n (i + 1)) (i + 1) (shA f n (i + 1) i) = shA f n i := by
  funext j
  unfold vp_updL
  by_cases e : j = i + 1
  · rw [if_pos e]
    unfold shA
    rw [if_neg (by omega), if_pos (by omega), e]
    rfl
  · rw [if_neg e]
    unfold shA
    by_cases g : i + 1 < j ∧ j ≤ n
    · rw [if_pos g, if_pos (by omega)]
    · rw [if_neg g, if_neg (by omega)]
theorem shA_ins (f : Nat → Int64) {n t : Nat} (x : Int64) : vp_updL (shA f n t) t x = insA f n t x := by
  funext j
  unfold vp_updL insA shA
  by_cases e : j = t
  · rw [if_pos e, if_neg (by omega), if_pos e]
  · rw [if_neg e]
    by_cases g : j < t
    · rw [if_pos g, if_neg (by omega)]
    · rw [if_neg g, if_neg e]
      by_cases q : j ≤ n
      · rw [if_pos (by omega), if_pos q]
      · rw [if_neg (by omega), if_neg q]
abbrev g1F (x d : Int64) : Int64 := cdF 128 (abL x) (abL d)
/-- a corner put among n ones: at t, if none is it -/
def insR (tx lx ty ly : Nat → Int64) (n : Nat) (x y d : Int64) (tx' lx' ty' ly' : Nat → Int64) (n' : Nat) : Prop := ∃ t, t ≤ n ∧ (∀ k, k < t → orF tx lx ty ly k x y d < 0) ∧ (t < n → ¬ orF tx lx ty ly t x y d < 0) ∧
  if t < n ∧ orF tx lx ty ly t x y d = 0 then tx' = tx ∧ lx' = lx ∧ ty' = ty ∧ ly' = ly ∧ n' = n else tx' = insA tx n t (ovr x (g1F x d)) ∧ lx' = insA lx n t (ovr d (g1F x d)) ∧ ty' = insA ty n t (ovr y (g1F y d)) ∧ ly' = insA ly n t (ovr d (g1F y d)) ∧ n' = n + 1
def ce_X4_insert : rz_K := (4, kSh, 2, false, fun av w => ∃ (a b c ex ey tx lx ty ly : Nat → Int64) (n : Nat) (x y d : Int64), av = [.ref 17, .long x, .long y, .long d] ∧ w = wSh a b c ex ey tx lx ty ly (nI n) ∧ n < 6, fun av w _ w' => ∀ n, rF w 17 9 = nI n → n < 6 → ∃ tx' lx' ty' ly' n', insR (rJ w 23) (rJ w 24) (rJ w 25) (rJ w 26) n (rB av 1) (rB av 2) (rB av 3) tx' lx' ty' ly' n' ∧ w' = wSh (rJ w 18) (rJ w 19) (rJ w 20) (rJ w 21) (rJ w 22) tx' lx' ty' ly' (nI n'))
def cl_X4_insert : List (Nat × rz_K) := [(59, ce_X4_commonDivisor), (63, ce_X4_over)]
def cv_X4_insert : List (Nat × rz_K) := [(55, ce_X4_order)]
theorem vc_X4_insert : rz_VC k_X4_insert fl_X4 cl_X4_insert cv_X4_insert s_X4_insert false 13 ce_X4_insert := by
  intro av w hlen hk hpre
  obtain ⟨a, b, c, ex, ey, tx, lx, ty, ly, n, x, y, d, rfl, rfl, hn⟩ := hpre
  have fin : ∀ tx' lx' ty' ly' n', insR tx lx ty ly n x y d tx' lx' ty' ly' n' → rz_end ce_X4_insert [.ref 17, .long x, .long y, .long d] (wSh a b c ex ey tx lx ty ly (nI n)) none (wSh a b c ex ey tx' lx' ty' ly' (nI n')) := by
    intro tx' lx' ty' ly' n' hr
    refine ⟨rfl, fun z => (by cases z), ?_⟩
    intro m e hm
    have e : n = m := nI_inj (by omega) (by omega) e
    subst e
    exact ⟨tx', lx', ty', ly', n', hr, rfl⟩
  have ord : ∀ (k : Nat) (r : Int32) (tx1 lx1 ty1 ly1 : Nat → Int64), k < 6 → ce_X4_order.2.2.2.2.2 [.ref 17, .int (nI k), .long x, .long y, .long d] (wSh a b c ex ey tx1 lx1 ty1 ly1 (nI n)) (some (.int r)) (wSh a b c ex ey tx1 lx1 ty1 ly1 (nI n)) → r = orF tx1 lx1 ty1 ly1 k x y d := fun k r tx1 lx1 ty1 ly1 hk hr => hr k rfl hk
  refine ⟨Nat.le_of_ble_eq_true rfl, [
    (3, [0, 1, 3, 5, 7], fun z lv w' => ∃ t : Nat, t ≤ n ∧ (∀ k, k < t → orF tx lx ty ly k x y d < 0) ∧ lv = [(0, .ref 17), (1, .long x), (3, .long y), (5, .long d), (7, .int (nI t))] ∧ w' = wSh a b c ex ey tx lx ty ly (nI n) ∧ z = 100 + (n - t)),
    (31, [0, 1, 3, 5, 7], fun z lv w' => ∃ t : Nat, t ≤ n ∧ (∀ k, k < t → orF tx lx ty ly k x y d < 0) ∧ (t < n → ¬ orF tx lx ty ly t x y d < 0) ∧ lv = [(0, .ref 17), (1, .long x), (3, .long y), (5, .long d), (7, .int (nI t))] ∧ w' = wSh a b c ex ey tx lx ty ly (nI n) ∧ z = 50),
    (81, [0, 1, 3, 5, 7, 9], fun z lv w' => ∃ t i : Nat, t ≤ i ∧ i ≤ n ∧ (∀ k, k < t → orF tx lx ty ly k x y d < 0) ∧ (t < n → ¬ orF tx lx ty ly t x y d < 0) ∧ ¬ (t < n ∧ orF tx lx ty ly t x y d = 0) ∧ lv = [(0, .ref 17), (1, .long x), (3, .long y), (5, .long d), (7, .int (nI t)), (9, .int (nI i))] ∧ w' = wSh a b c ex ey (shA tx n i) (shA lx n i) (shA ty n i) (shA ly n i) (nI n) ∧ z = i - t)], 150, 200, ?_, ?_⟩
  · intro y1 hq z lv w' hj
    rcases List.mem_cons.mp hq with rfl | hq
    · obtain ⟨t, ht, hall, rfl, rfl, rfl⟩ := hj
      conv => whnf
      refine ⟨fun k => ?_, fun k => ?_⟩
      · have e : t = n := by
          have := (nI_leI (by omega) (by omega)).mp k
          omega
        subst e
        conv => whnf
        refine ⟨50, by omega, t, ht, hall, fun z => absurd z (by omega), rfl, rfl, rfl⟩
      · have ht2 : t < n := by
          rcases Nat.lt_or_ge t n with z | z
          · exact z
          · exact absurd (nI_le z (by omega)) k
        conv => whnf
        refine ⟨⟨a, b, c, ex, ey, tx, lx, ty, ly, nI n, t, x, y, d, rfl, rfl, by omega⟩, ?_⟩
        intro r hr
        obtain rfl := ord t r tx lx ty ly (by omega) hr
        conv => whnf
        refine ⟨fun k2 => ?_, fun k2 => ?_⟩
        · conv => whnf
          refine ⟨50, by omega, t, ht, hall, fun _ => (i32_not_lt _ _).mpr k2, rfl, rfl, rfl⟩
        · conv => whnf
          rintro _ rfl
          conv => whnf
          refine ⟨100 + (n - (t + 1)), by omega, t + 1, by omega, lt_s hall ((i32_not_le _ _).mp k2), ?_, rfl, rfl⟩
          show [_, _, _, _, (7, Value.int (nI t + 1))] = _
          rw [nI_1]
    rcases List.mem_cons.mp hq with rfl | hq
    · obtain ⟨t, ht, hall, hno, rfl, rfl, rfl⟩ := hj
      have go : ∀ m, ¬ (t < n ∧ orF tx lx ty ly t x y d = 0) → n - t < m → ∃ z, z < m ∧ ∃ t' i : Nat, t' ≤ i ∧ i ≤ n ∧ (∀ k, k < t' → orF tx lx ty ly k x y d < 0) ∧ (t' < n → ¬ orF tx lx ty ly t' x y d < 0) ∧ ¬ (t' < n ∧ orF tx lx ty ly t' x y d = 0) ∧ [(0, Value.ref 17), (1, .long x), (3, .long y), (5, .long d), (7, .int (nI t)), (9, .int (nI n))] = [(0, .ref 17), (1, .long x), (3, .long y), (5, .long d), (7, .int (nI t')), (9, .int (nI i))] ∧ wSh a b c ex ey tx lx ty ly (nI n) = wSh a b c ex ey (shA tx n i) (shA lx n i) (shA ty n i) (shA ly n i) (nI n) ∧ z = i - t' := fun m h hm => ⟨n - t, hm, t, n, ht, Nat.le_refl n, hall, hno, h, rfl, by rw [shA_n, shA_n, shA_n, shA_n], rfl⟩
      have h6 : nI n < nI 6 := nI_lt hn (by omega)
      conv => whnf
      refine ⟨fun k => ?_, fun k => ?_⟩
      · have k := (nI_leI (by omega) (by omega)).mp k
        conv => whnf
        rintro _ rfl
        conv => whnf
        refine ⟨fun k2 => ?_, fun k2 => ?_⟩
        · conv => whnf
          refine ⟨fun k3 => ?_, fun k3 => ?_⟩
          · conv => whnf
            rintro _ rfl
            conv => whnf
            exact go _ (fun z => absurd z.1 (by omega)) (by omega)
          · exact absurd h6 k3
        · exact absurd rfl k2
      · have ht2 : t < n := by
          rcases Nat.lt_or_ge t n with z | z
          · exact z
          · exact absurd (nI_le z (by omega)) k
        conv => whnf
        refine ⟨⟨a, b, c, ex, ey, tx, lx, ty, ly, nI n, t, x, y, d, rfl, rfl, by omega⟩, ?_⟩
        intro r hr
        obtain rfl := ord t r tx lx ty ly (by omega) hr
        conv => whnf
        refine ⟨fun k2 => ?_, fun k2 => ?_⟩
        · conv => whnf
          rintro _ rfl
          conv => whnf
          refine ⟨fun k3 => ?_, fun k3 => ?_⟩
          · exact absurd k3 (by decide)
          · exact fin tx lx ty ly n ⟨t, ht, hall, hno, if_yes ⟨ht2, k2⟩ ⟨rfl, rfl, rfl, rfl, rfl⟩⟩
        · conv => whnf
          rintro _ rfl
          conv => whnf
          refine ⟨fun k3 => ?_, fun k3 => ?_⟩
          · conv => whnf
            refine ⟨fun k4 => ?_, fun k4 => ?_⟩
            · conv => whnf
              rintro _ rfl
              conv => whnf
              exact go _ (fun z => k2 z.2) (by omega)
            · exact absurd h6 k4
          · exact absurd rfl k3
    rcases List.mem_cons.mp hq with rfl | hq
    · obtain ⟨t, i, hti, hin, hall, hno, hne, rfl, rfl, rfl⟩ := hj
      have hvt : vp_in (nI t) 6 := vp_in_nI (by omega) (by omega)
      have hct : (nI t).toNatClampNeg = t := nI_clamp (by omega)
      conv => whnf
      refine ⟨fun k => ?_, fun k => ?_⟩
      · have k := (nI_leI (by omega) (by omega)).mp k
        have e : i = t := by omega
        subst e
        conv => whnf
        refine ⟨⟨_, _, rfl, rfl, trivial⟩, ?_⟩
        intro r1 hr1
        obtain rfl : r1 = g1F x d := hr1
        conv => whnf
        rintro _ rfl
        conv => whnf
        refine ⟨⟨_, _, rfl, rfl, trivial⟩, ?_⟩
        intro r2 hr2
        obtain rfl : r2 = g1F y d := hr2
        conv => whnf
        rintro _ rfl
        conv => whnf
        refine ⟨⟨_, _, rfl, rfl, trivial⟩, ?_⟩
        intro v1 hv1
        obtain rfl : v1 = ovr x (g1F x d) := hv1
        conv => whnf
        refine ⟨hvt, ?_⟩
        conv => whnf
        refine ⟨⟨_, _, rfl, rfl, trivial⟩, ?_⟩
        intro v2 hv2
        obtain rfl : v2 = ovr d (g1F x d) := hv2
        conv => whnf
        refine ⟨hvt, ?_⟩
        conv => whnf
        refine ⟨⟨_, _, rfl, rfl, trivial⟩, ?_⟩
        intro v3 hv3
        obtain rfl : v3 = ovr y (g1F y d) := hv3
        conv => whnf
        refine ⟨hvt, ?_⟩
        conv => whnf
        refine ⟨⟨_, _, rfl, rfl, trivial⟩, ?_⟩
        intro v4 hv4
        obtain rfl : v4 = ovr d (g1F y d) := hv4
        conv => whnf
        refine ⟨hvt, ?_⟩
        conv => whnf
        have res := fin _ _ _ _ _ ⟨i, by omega, hall, hno, if_no hne ⟨rfl, rfl, rfl, rfl, rfl⟩⟩
        rw [← shA_ins, ← shA_ins, ← shA_ins, ← shA_ins, ← nI_1] at res
        have hw : wSh a b c ex ey (vp_updL (shA tx n i) (nI i).toNatClampNeg (ovr x (g1F x d))) (vp_updL (shA lx n i) (nI i).toNatClampNeg (ovr d (g1F x d))) (vp_updL (shA ty n i) (nI i).toNatClampNeg (ovr y (g1F y d))) (vp_updL (shA ly n i) (nI i).toNatClampNeg (ovr d (g1F y d))) (nI n + 1) = wSh a b c ex ey (vp_updL (shA tx n i) i (ovr x (g1F x d))) (vp_updL (shA lx n i) i (ovr d (g1F x d))) (vp_updL (shA ty n i) i (ovr y (g1F y d))) (vp_updL (shA ly n i) i (ovr d (g1F y d))) (nI n + 1) := by rw [hct]
        rw [← hw] at res
        exact res
      · have hlt : t < i := by
          rcases Nat.lt_or_ge t i with z | z
          · exact z
          · exact absurd (nI_le z (by omega)) k
        obtain ⟨q, rfl⟩ : ∃ q, i = q + 1 := ⟨i - 1, by omega⟩
        have hp : nI (q + 1) - 1 = nI q := nI_pred q
        have hv1 : vp_in (nI (q + 1)) 6 := vp_in_nI (by omega) (by omega)
        have hv0 : vp_in (nI (q + 1) - 1) 6 := by rw [hp]; exact vp_in_nI (by omega) (by omega)
        have hc1 : (nI (q + 1)).toNatClampNeg = q + 1 := nI_clamp (by omega)
        have hc0 : (nI (q + 1) - 1).toNatClampNeg = q := by rw [hp]; exact nI_clamp (by omega)
        conv => whnf
        refine ⟨hv0, ?_⟩
        conv => whnf
        refine ⟨hv1, ?_⟩
        conv => whnf
        refine ⟨hv0, ?_⟩
        conv => whnf
        refine ⟨hv1, ?_⟩
        conv => whnf
        refine ⟨hv0, ?_⟩
        conv => whnf
        refine ⟨hv1, ?_⟩
        conv => whnf
        refine ⟨hv0, ?_⟩
        conv => whnf
        refine ⟨hv1, ?_⟩
        conv => whnf
        rintro _ rfl
        conv => whnf
        refine ⟨q - t, by omega, t, q, by omega, by omega, hall, hno, hne, ?_, ?_, rfl⟩
        · show [_, _, _, _, _, (9, Value.int (nI (q + 1) + (-1)))] = _
          rw [pk_m1]
        · have step : ∀ f : Nat → Int64, vp_updL (shA f n (q + 1)) (nI (q + 1)).toNatClampNeg (shA f n (q + 1) (nI (q + 1) - 1).toNatClampNeg) = shA f n q := fun f => by rw [hc1, hc0]; exact shA_s f (by omega)
          show wSh a b c ex ey (vp_updL (shA tx n (q + 1)) (nI (q + 1)).toNatClampNeg (shA tx n (q + 1) (nI (q + 1) - 1).toNatClampNeg)) (vp_updL (shA lx n (q + 1)) (nI (q + 1)).toNatClampNeg (shA lx n (q + 1) (nI (q + 1) - 1).toNatClampNeg)) (vp_updL (shA ty n (q + 1)) (nI (q + 1)).toNatClampNeg (shA ty n (q + 1) (nI (q + 1) - 1).toNatClampNeg)) (vp_updL (shA ly n (q + 1)) (nI (q + 1)).toNatClampNeg (shA ly n (q + 1) (nI (q + 1) - 1).toNatClampNeg)) (nI n) = _
          rw [step, step, step, step]
    · exact absurd hq List.not_mem_nil
  · conv => whnf
    rintro _ rfl
    conv => whnf
    refine ⟨100 + (n - 0), by omega, 0, by omega, lt_0, rfl, rfl, rfl⟩
theorem rv_X4_insert : rz_Rv yX4_insert.cls ce_X4_insert := fun av w h => by
  obtain ⟨_, _, _, _, _, _, _, _, _, _, _, _, _, rfl, rfl, _⟩ := h
  exact ⟨_, _, _, _, _, _, rfl, rfl, rfl⟩
theorem cn_X4_insert (l : Launch) : rz_Con l yX4_insert cX4_insert 13 none 2 0 0 ce_X4_insert := rz_con (by decide +kernel) fo_X4 (by
  intro q hq
  rcases List.mem_cons.mp hq with rfl | hq
  · exact rz_callS (cn_X4_commonDivisor l) (by decide +kernel) ⟨Nat.le_of_ble_eq_true rfl, Nat.le_of_ble_eq_true rfl⟩ m_X4_commonDivisor t_X4_commonDivisor n_X4_59
  rcases List.mem_cons.mp hq with rfl | hq
  · exact rz_callS (cn_X4_over l) (by decide +kernel) ⟨Nat.le_of_ble_eq_true rfl, Nat.le_of_ble_eq_true rfl⟩ m_X4_over t_X4_over n_X4_63
  exact absurd hq List.not_mem_nil) (by
  intro q hq
  rcases List.mem_cons.mp hq with rfl | hq
  · exact rz_callV (cn_X4_order l) (by decide +kernel) ⟨Nat.le_of_ble_eq_true rfl, Nat.le_of_ble_eq_true rfl⟩ m_X4_order rfl i_X4_order v_X4_order rv_X4_order n_X4_55
  exact absurd hq List.not_mem_nil) r_X4_insert vc_X4_insert
/-- two lines cross: where, over a number above 0 -/
abbrev crD (a b : Nat → Int64) (i j : Nat) : Int64 := a i * b j - a j * b i
abbrev crX (b c : Nat → Int64) (i j : Nat) : Int64 := c i * b j - c j * b i
abbrev crY (a c : Nat → Int64) (i j : Nat) : Int64 := a i * c j - a j * c i
def sgn (d v : Int64) : Int64 := if d < 0 then -v else v
def tcR (a b c : Nat → Int64) (i j : Nat) (tx lx ty ly : Nat → Int64) (n : Nat) (tx' lx' ty' ly' : Nat → Int64) (n' : Nat) : Prop :=
  if crD a b i j = 0 ∨ ¬ inA a b c (sgn (crD a b i j) (crX b c i j)) (sgn (crD a b i j) (crY a c i j)) (sgn (crD a b i j) (crD a b i j)) then tx' = tx ∧ lx' = lx ∧ ty' = ty ∧ ly' = ly ∧ n' = n else insR tx lx ty ly n (sgn (crD a b i j) (crX b c i j)) (sgn (crD a b i j) (crY a c i j)) (sgn (crD a b i j) (crD a b i j)) tx' lx' ty' ly' n'
def ce_X4_tryCrossing : rz_K := (3, kSh, 2, false, fun av w => ∃ (a b c ex ey tx lx ty ly : Nat → Int64) (n i j : Nat), av = [.ref 17, .int (nI i), .int (nI j)] ∧ w = wSh a b c ex ey tx lx ty ly (nI n) ∧ n < 6 ∧ i < 4 ∧ j < 4, fun av w _ w' => ∀ n i j, rF w 17 9 = nI n → n < 6 → rA av 1 = nI i → i < 4 → rA av 2 = nI j → j < 4 → ∃ tx' lx' ty' ly' n', tcR (rJ w 18) (rJ w 19) (rJ w 20) i j (rJ w 23) (rJ w 24) (rJ w 25) (rJ w 26) n tx' lx' ty' ly' n' ∧ w' = wSh (rJ w 18) (rJ w 19) (rJ w 20) (rJ w 21) (rJ w 22) tx' lx' ty' ly' (nI n'))
def cl_X4_tryCrossing : List (Nat × rz_K) := []
def cv_X4_tryCrossing : List (Nat × rz_K) := [(47, ce_X4_isInside), (51, ce_X4_insert)]
theorem vc_X4_tryCrossing : rz_VC k_X4_tryCrossing fl_X4 cl_X4_tryCrossing cv_X4_tryCrossing s_X4_tryCrossing false 9 ce_X4_tryCrossing := by
  intro av w hlen hk hpre
  obtain ⟨a, b, c, ex, ey, tx, lx, ty, ly, n, i, j, rfl, rfl, hn, hi, hj⟩ := hpre
  have fin : ∀ tx' lx' ty' ly' n', tcR a b c i j tx lx ty ly n tx' lx' ty' ly' n' → rz_end ce_X4_tryCrossing [.ref 17, .int (nI i), .int (nI j)] (wSh a b c ex ey tx lx ty ly (nI n)) none (wSh a b c ex ey tx' lx' ty' ly' (nI n')) := by
    intro tx' lx' ty' ly' n' hr
    refine ⟨rfl, fun z => (by cases z), ?_⟩
    intro m i' j' e hm e2 hi' e3 hj'
    have e : n = m := nI_inj (by omega) (by omega) e
    have e2 : i = i' := nI_inj (by omega) (by omega) e2
    have e3 : j = j' := nI_inj (by omega) (by omega) e3
    subst e e2 e3
    exact ⟨tx', lx', ty', ly', n', hr, rfl⟩
  have hvi := nI4 i hi
  have hvj := nI4 j hj
  have hci : (nI i).toNatClampNeg = i := nI_clamp (by omega)
  have hcj : (nI j).toNatClampNeg = j := nI_clamp (by omega)
  refine ⟨Nat.le_of_ble_eq_true rfl, [(112, [0, 1, 2, 3, 5, 7], fun z lv w' => ∃ xx yy dd : Int64, xx = sgn (crD a b i j) (crX b c i j) ∧ yy = sgn (crD a b i j) (crY a c i j) ∧ dd = sgn (crD a b i j) (crD a b i j) ∧ ¬ crD a b i j = 0 ∧ lv = [(0, .ref 17), (1, .int (nI i)), (2, .int (nI j)), (3, .long dd), (5, .long xx), (7, .long yy)] ∧ w' = wSh a b c ex ey tx lx ty ly (nI n) ∧ z = 0)], 130, 1, ?_, ?_⟩
  · intro q hq z lv w' hJ
    rcases List.mem_cons.mp hq with rfl | hq
    rotate_left
    · exact absurd hq List.not_mem_nil
    obtain ⟨xx, yy, dd, hxx, hyy, hdd, hne, rfl, rfl, rfl⟩ := hJ
    conv => whnf
    refine ⟨⟨a, b, c, ex, ey, tx, lx, ty, ly, nI n, xx, yy, dd, rfl, rfl, trivial⟩, ?_⟩
    intro r hr
    obtain rfl : r = bI (inA a b c xx yy dd) := hr
    conv => whnf
    refine ⟨fun h => ?_, fun h => ?_⟩
    · refine fin tx lx ty ly n ?_
      rw [hxx, hyy, hdd] at h
      exact if_yes (Or.inr (bI_0 h)) ⟨rfl, rfl, rfl, rfl, rfl⟩
    · conv => whnf
      refine ⟨⟨a, b, c, ex, ey, tx, lx, ty, ly, n, xx, yy, dd, rfl, rfl, hn⟩, ?_⟩
      intro wc hwc
      obtain ⟨tx', lx', ty', ly', n', hins, rfl⟩ := hwc n rfl hn
      conv => whnf
      refine fin tx' lx' ty' ly' n' ?_
      rw [hxx, hyy, hdd] at h
      have hins : insR tx lx ty ly n xx yy dd tx' lx' ty' ly' n' := hins
      rw [hxx, hyy, hdd] at hins
      exact if_no (fun z => z.elim hne (fun y => y (bI_n h))) hins
  · conv => whnf
    refine ⟨hvi, ?_⟩
    conv => whnf
    refine ⟨hvj, ?_⟩
    conv => whnf
    refine ⟨hvj, ?_⟩
    conv => whnf
    refine ⟨hvi, ?_⟩
    conv => whnf
    intro d ed
    have ed : d = crD a b i j := by
      rw [ed]
      show a (nI i).toNatClampNeg * b (nI j).toNatClampNeg - a (nI j).toNatClampNeg * b (nI i).toNatClampNeg = _
      rw [hci, hcj]
    conv => whnf
    refine ⟨fun h => ?_, fun h => ?_⟩
    · have h : d = 0 := (lg_eq0 d 0).mp h
      refine fin tx lx ty ly n ?_
      exact if_yes (Or.inl (by rw [← ed]; exact h)) ⟨rfl, rfl, rfl, rfl, rfl⟩
    · have h : ¬ d = 0 := fun z => h ((lg_eq0 d 0).mpr z)
      have h' : ¬ crD a b i j = 0 := by rw [← ed]; exact h
      conv => whnf
      refine ⟨hvi, ?_⟩
      conv => whnf
      refine ⟨hvj, ?_⟩
      conv => whnf
      refine ⟨hvj, ?_⟩
      conv => whnf
      refine ⟨hvi, ?_⟩
      conv => whnf
      intro xr exr
      have hx1 : xr = crX b c i j := by
        rw [exr]
        show c (nI i).toNatClampNeg * b (nI j).toNatClampNeg - c (nI j).toNatClampNeg * b (nI i).toNatClampNeg = _
        rw [hci, hcj]
      conv => whnf
      refine ⟨hvi, ?_⟩
      conv => whnf
      refine ⟨hvj, ?_⟩
      conv => whnf
      refine ⟨hvj, ?_⟩
      conv => whnf
      refine ⟨hvi, ?_⟩
      conv => whnf
      intro yr eyr
      have hy1 : yr = crY a c i j := by
        rw [eyr]
        show a (nI i).toNatClampNeg * c (nI j).toNatClampNeg - a (nI j).toNatClampNeg * c (nI i).toNatClampNeg = _
        rw [hci, hcj]
      conv => whnf
      refine ⟨fun h2 => ?_, fun h2 => ?_⟩
      · have h2 : ¬ d < 0 := (i64_not_lt _ _).mpr ((lg_ge0 d 0).mp h2)
        conv => whnf
        refine ⟨0, by omega, xr, yr, d, (by rw [sgn, ← ed, if_neg h2, hx1]), (by rw [sgn, ← ed, if_neg h2, hy1]), (by rw [sgn, ← ed, if_neg h2]), h', rfl, rfl, rfl⟩
      · have h2 : d < 0 := (i64_not_le _ _).mp (fun z => h2 ((lg_ge0 d 0).mpr z))
        conv => whnf
        intro d1 ed1
        conv => whnf
        intro x1 ex1
        conv => whnf
        intro y1 ey1
        conv => whnf
        refine ⟨0, by omega, x1, y1, d1, (by rw [sgn, ← ed, if_pos h2, ex1, hx1]), (by rw [sgn, ← ed, if_pos h2, ey1, hy1]), (by rw [sgn, ← ed, if_pos h2, ed1]), h', rfl, rfl, rfl⟩
theorem rv_X4_tryCrossing : rz_Rv yX4_tryCrossing.cls ce_X4_tryCrossing := fun av w h => by
  obtain ⟨_, _, _, _, _, _, _, _, _, _, _, _, rfl, rfl, _⟩ := h
  exact ⟨_, _, _, _, _, _, rfl, rfl, rfl⟩
theorem cn_X4_tryCrossing (l : Launch) : rz_Con l yX4_tryCrossing cX4_tryCrossing 9 none 3 0 0 ce_X4_tryCrossing := rz_con (by decide +kernel) fo_X4 (fun _ h => absurd h List.not_mem_nil) (by
  intro q hq
  rcases List.mem_cons.mp hq with rfl | hq
  · exact rz_callV (cn_X4_isInside l) (by decide +kernel) ⟨Nat.le_of_ble_eq_true rfl, Nat.le_of_ble_eq_true rfl⟩ m_X4_isInside rfl i_X4_isInside v_X4_isInside rv_X4_isInside n_X4_47
  rcases List.mem_cons.mp hq with rfl | hq
  · exact rz_callV (cn_X4_insert l) (by decide +kernel) ⟨Nat.le_of_ble_eq_true rfl, Nat.le_of_ble_eq_true rfl⟩ m_X4_insert rfl i_X4_insert v_X4_insert rv_X4_insert n_X4_51
  exact absurd hq List.not_mem_nil) r_X4_tryCrossing vc_X4_tryCrossing
end
section
/-! Shape: all six crossings; parts of corners; box. -/
theorem insR_n {tx lx ty ly : Nat → Int64} {n : Nat} {x y d : Int64} {tx' lx' ty' ly' : Nat → Int64} {n' : Nat} (h : insR tx lx ty ly n x y d tx' lx' ty' ly' n') : n' ≤ n + 1 := by
  obtain ⟨t, h1, h2, h3, h4⟩ := h
  by_cases z : t < n ∧ orF tx lx ty ly t x y d = 0
  · have := (if_y h4 z).2.2.2.2; omega
  · have := (if_n h4 z).2.2.2.2; omega
theorem tcR_n {a b c : Nat → Int64} {i j : Nat} {tx lx ty ly : Nat → Int64} {n : Nat} {tx' lx' ty' ly' : Nat → Int64} {n' : Nat} (h : tcR a b c i j tx lx ty ly n tx' lx' ty' ly' n') : n' ≤ n + 1 := by
  unfold tcR at h
  split at h
  · have := h.2.2.2.2; omega
  · exact insR_n h
def pP (s : Nat) : Nat × Nat := match s with
  | 0 => (0, 1)
  | 1 => (0, 2)
  | 2 => (0, 3)
  | 3 => (1, 2)
  | 4 => (1, 3)
  | _ => (2, 3)
def oP (i : Nat) : Nat := match i with
  | 0 => 0
  | 1 => 3
  | 2 => 5
  | _ => 6
theorem pP_at : ∀ i, i < 4 → ∀ j, j < 4 → i < j → pP (oP i + (j - (i + 1))) = (i, j) ∧ oP i + (j - (i + 1)) < 6 := by decide
theorem oP_s : ∀ i, i < 4 → oP i + (4 - (i + 1)) = oP (i + 1) := by decide
/-- the corners of a shape: the first s crossings in turn -/
def fcS (a b c tx lx ty ly : Nat → Int64) : Nat → (Nat → Int64) → (Nat → Int64) → (Nat → Int64) → (Nat → Int64) → Nat → Prop
  | 0, t, l, y, m, n => t = tx ∧ l = lx ∧ y = ty ∧ m = ly ∧ n = 0
  | s + 1, t, l, y, m, n => ∃ t0 l0 y0 m0 n0, fcS a b c tx lx ty ly s t0 l0 y0 m0 n0 ∧ tcR a b c (pP s).1 (pP s).2 t0 l0 y0 m0 n0 t l y m n
theorem fcS_n {a b c tx lx ty ly : Nat → Int64} : ∀ {s : Nat} {t l y m : Nat → Int64} {n : Nat}, fcS a b c tx lx ty ly s t l y m n → n ≤ s
  | 0, _, _, _, _, _, h => by have := h.2.2.2.2; omega
  | s + 1, _, _, _, _, _, h => by
    obtain ⟨t0, l0, y0, m0, n0, h1, h2⟩ := h
    have := fcS_n h1
    have := tcR_n h2
    omega
def ce_X4_findCorners : rz_K := (1, kSh, 2, false, fun av w => ∃ (a b c ex ey tx lx ty ly : Nat → Int64) (co : Int32), av = [.ref 17] ∧ w = wSh a b c ex ey tx lx ty ly co ∧ True, fun _ w _ w' => ∃ tx' lx' ty' ly' n', fcS (rJ w 18) (rJ w 19) (rJ w 20) (rJ w 23) (rJ w 24) (rJ w 25) (rJ w 26) 6 tx' lx' ty' ly' n' ∧ w' = wSh (rJ w 18) (rJ w 19) (rJ w 20) (rJ w 21) (rJ w 22) tx' lx' ty' ly' (nI n'))
def cl_X4_findCorners : List (Nat × rz_K) := []
def cv_X4_findCorners : List (Nat × rz_K) := [(43, ce_X4_tryCrossing)]
theorem vc_X4_findCorners : rz_VC k_X4_findCorners fl_X4 cl_X4_findCorners cv_X4_findCorners s_X4_findCorners false 3 ce_X4_findCorners := by
  intro av w hlen hk hpre
  obtain ⟨a, b, c, ex, ey, tx, lx, ty, ly, co, rfl, rfl, -⟩ := hpre
  refine ⟨Nat.le_of_ble_eq_true rfl, [
    (7, [0, 1], fun z lv w' => ∃ (i : Nat) (t l y m : Nat → Int64) (n : Nat), i ≤ 4 ∧ fcS a b c tx lx ty ly (oP i) t l y m n ∧ lv = [(0, .ref 17), (1, .int (nI i))] ∧ w' = wSh a b c ex ey t l y m (nI n) ∧ z = (4 - i) * 20 + 10),
    (16, [0, 1, 2], fun z lv w' => ∃ (i j : Nat) (t l y m : Nat → Int64) (n : Nat), i < 4 ∧ i < j ∧ j ≤ 4 ∧ fcS a b c tx lx ty ly (oP i + (j - (i + 1))) t l y m n ∧ lv = [(0, .ref 17), (1, .int (nI i)), (2, .int (nI j))] ∧ w' = wSh a b c ex ey t l y m (nI n) ∧ z = (4 - i) * 20 + 9 - j)], 60, 91, ?_, ?_⟩
  · intro y1 hq z lv w' hj
    rcases List.mem_cons.mp hq with rfl | hq
    · obtain ⟨i, t, l, y, m, n, hi, hfc, rfl, rfl, rfl⟩ := hj
      conv => whnf
      refine ⟨fun k => ?_, fun k => ?_⟩
      · have k : nI 4 ≤ nI i := k
        have e : i = 4 := by
          have := (nI_leI (by omega) (by omega)).mp k
          omega
        subst e
        exact ⟨rfl, fun z => (by cases z), t, l, y, m, n, hfc, rfl⟩
      · have k : ¬ nI 4 ≤ nI i := k
        have hi2 : i < 4 := by
          rcases Nat.lt_or_ge i 4 with z | z
          · exact z
          · exact absurd (nI_le z (by omega)) k
        conv => whnf
        rintro _ rfl
        conv => whnf
        refine ⟨(4 - i) * 20 + 9 - (i + 1), by omega, i, i + 1, t, l, y, m, n, hi2, by omega, by omega, ?_, ?_, rfl, rfl⟩
        · rw [show oP i + (i + 1 - (i + 1)) = oP i by omega]
          exact hfc
        · show [_, _, (2, Value.int (nI i + 1))] = _
          rw [nI_1]
    rcases List.mem_cons.mp hq with rfl | hq
    · obtain ⟨i, j, t, l, y, m, n, hi, hij, hj4, hfc, rfl, rfl, rfl⟩ := hj
      conv => whnf
      refine ⟨fun k => ?_, fun k => ?_⟩
      · have k : nI 4 ≤ nI j := k
        have e : j = 4 := by
          have := (nI_leI (by omega) (by omega)).mp k
          omega
        subst e
        conv => whnf
        rintro _ rfl
        conv => whnf
        refine ⟨(4 - (i + 1)) * 20 + 10, by omega, i + 1, t, l, y, m, n, by omega, ?_, ?_, rfl, rfl⟩
        · rw [← oP_s i hi]
          exact hfc
        · show [_, (1, Value.int (nI i + 1))] = _
          rw [nI_1]
      · have k : ¬ nI 4 ≤ nI j := k
        have hj2 : j < 4 := by
          rcases Nat.lt_or_ge j 4 with z | z
          · exact z
          · exact absurd (nI_le z (by omega)) k
        obtain ⟨hpp, hs6⟩ := pP_at i hi j hj2 hij
        have hn6 : n < 6 := Nat.lt_of_le_of_lt (fcS_n hfc) hs6
        conv => whnf
        refine ⟨⟨a, b, c, ex, ey, t, l, y, m, n, i, j, rfl, rfl, hn6, hi, hj2⟩, ?_⟩
        intro wc hwc
        obtain ⟨t', l', y', m', n', g, rfl⟩ := hwc n i j rfl hn6 rfl hi rfl hj2
        have g : tcR a b c i j t l y m n t' l' y' m' n' := g
        conv => whnf
        rintro _ rfl
        conv => whnf
        refine ⟨(4 - i) * 20 + 9 - (j + 1), by omega, i, j + 1, t', l', y', m', n', hi, by omega, by omega, ?_, ?_, rfl, rfl⟩
        · rw [show oP i + (j + 1 - (i + 1)) = oP i + (j - (i + 1)) + 1 by omega]
          refine ⟨t, l, y, m, n, hfc, ?_⟩
          rw [hpp]
          exact g
        · show [_, _, (2, Value.int (nI j + 1))] = _
          rw [nI_1]
    · exact absurd hq List.not_mem_nil
  · conv => whnf
    rintro _ rfl
    conv => whnf
    refine ⟨90, by omega, 0, tx, lx, ty, ly, 0, by omega, ⟨rfl, rfl, rfl, rfl, rfl⟩, rfl, rfl, rfl⟩
theorem rv_X4_findCorners : rz_Rv yX4_findCorners.cls ce_X4_findCorners := fun av w h => by
  obtain ⟨_, _, _, _, _, _, _, _, _, _, rfl, rfl, _⟩ := h
  exact ⟨_, _, _, _, _, _, rfl, rfl, rfl⟩
theorem cn_X4_findCorners (l : Launch) : rz_Con l yX4_findCorners cX4_findCorners 3 none 4 0 0 ce_X4_findCorners := rz_con (by decide +kernel) fo_X4 (fun _ h => absurd h List.not_mem_nil) (by
  intro q hq
  rcases List.mem_cons.mp hq with rfl | hq
  · exact rz_callV (cn_X4_tryCrossing l) (by decide +kernel) ⟨Nat.le_of_ble_eq_true rfl, Nat.le_of_ble_eq_true rfl⟩ m_X4_tryCrossing rfl i_X4_tryCrossing v_X4_tryCrossing rv_X4_tryCrossing n_X4_43
  exact absurd hq List.not_mem_nil) r_X4_findCorners vc_X4_findCorners
def ce_X4_cornerPart : rz_K := (3, kSh, 1, true, fun av w => ∃ (a b c ex ey tx lx ty ly : Nat → Int64) (co i q : Int32), av = [.ref 17, .int i, .int q] ∧ w = wSh a b c ex ey tx lx ty ly co ∧ vp_in i 6, fun av w o _ => rS o = if rA av 2 = 0 then rJ w 23 (rA av 1).toNatClampNeg else if rA av 2 = 1 then rJ w 24 (rA av 1).toNatClampNeg else if rA av 2 = 2 then rJ w 25 (rA av 1).toNatClampNeg else rJ w 26 (rA av 1).toNatClampNeg)
def cl_X4_cornerPart : List (Nat × rz_K) := []
def cv_X4_cornerPart : List (Nat × rz_K) := []
theorem vc_X4_cornerPart : rz_VC k_X4_cornerPart fl_X4 cl_X4_cornerPart cv_X4_cornerPart s_X4_cornerPart false 3 ce_X4_cornerPart := by
  intro av w hlen hk hpre
  obtain ⟨a, b, c, ex, ey, tx, lx, ty, ly, co, i, q, rfl, rfl, hv⟩ := hpre
  refine ⟨Nat.le_of_ble_eq_true rfl, [], 60, 0, fun q h => absurd h List.not_mem_nil, ?_⟩
  have fin : ∀ v : Int64, (v = if q = 0 then tx i.toNatClampNeg else if q = 1 then lx i.toNatClampNeg else if q = 2 then ty i.toNatClampNeg else ly i.toNatClampNeg) → rz_end ce_X4_cornerPart [.ref 17, .int i, .int q] (wSh a b c ex ey tx lx ty ly co) (some (.long v)) (wSh a b c ex ey tx lx ty ly co) := fun v hv => ⟨⟨_, rfl⟩, fun _ => rfl, hv⟩
  conv => whnf
  refine ⟨fun h0 => ?_, fun h0 => ?_⟩
  · conv => whnf
    refine ⟨hv, ?_⟩
    conv => whnf
    exact fin _ (by rw [if_pos h0])
  · conv => whnf
    refine ⟨fun h1 => ?_, fun h1 => ?_⟩
    · conv => whnf
      refine ⟨hv, ?_⟩
      conv => whnf
      exact fin _ (by rw [if_neg h0, if_pos h1])
    · conv => whnf
      refine ⟨fun h2 => ?_, fun h2 => ?_⟩
      · conv => whnf
        refine ⟨hv, ?_⟩
        conv => whnf
        exact fin _ (by rw [if_neg h0, if_neg h1, if_pos h2])
      · conv => whnf
        refine ⟨hv, ?_⟩
        conv => whnf
        exact fin _ (by rw [if_neg h0, if_neg h1, if_neg h2])
theorem rv_X4_cornerPart : rz_Rv yX4_cornerPart.cls ce_X4_cornerPart := fun av w h => by
  obtain ⟨_, _, _, _, _, _, _, _, _, _, _, _, rfl, rfl, _⟩ := h
  exact ⟨_, _, _, _, _, _, rfl, rfl, rfl⟩
theorem cn_X4_cornerPart (l : Launch) : rz_Con l yX4_cornerPart cX4_cornerPart 3 (some .long) 0 0 0 ce_X4_cornerPart := rz_con (by decide +kernel) fo_X4 (fun _ h => absurd h List.not_mem_nil) (fun _ h => absurd h List.not_mem_nil) r_X4_cornerPart vc_X4_cornerPart
def leF (f g : Nat → Int64) : Nat → Int64
  | 0 => 9223372036854775807
  | n + 1 => if flr (f n) (g n) < leF f g n then flr (f n) (g n) else leF f g n
def grF (f g : Nat → Int64) : Nat → Int64
  | 0 => -9223372036854775808
  | n + 1 => if grF f g n < -flr (-f n) (g n) then -flr (-f n) (g n) else grF f g n
def ce_X4_least : rz_K := (3, kSh, 0, true, fun av w => ∃ (a b c ex ey tx lx ty ly : Nat → Int64) (n : Nat) (q : Bool), av = [.ref 17, .ref (if q then 25 else 23), .ref (if q then 26 else 24)] ∧ w = wSh a b c ex ey tx lx ty ly (nI n) ∧ n ≤ 6, fun av w o _ => ∀ n, rF w 17 9 = nI n → n ≤ 6 → rR o = (leF (rJ w (rP av 1)) (rJ w (rP av 2)) n).toInt32)
def cl_X4_least : List (Nat × rz_K) := [(95, ce_X4_floor), (98, ce_J9_min_f86c9)]
def cv_X4_least : List (Nat × rz_K) := []
theorem vc_X4_least : rz_VC k_X4_least fl_X4 cl_X4_least cv_X4_least s_X4_least false 6 ce_X4_least := by
  intro av w hlen hk hpre
  obtain ⟨a, b, c, ex, ey, tx, lx, ty, ly, n, q, rfl, rfl, hn⟩ := hpre
  cases q with
  | false =>
    refine ⟨Nat.le_of_ble_eq_true rfl, [(7, [0, 1, 2, 3, 5], fun z lv w' => ∃ i : Nat, i ≤ n ∧ lv = [(0, .ref 17), (1, .ref 23), (2, .ref 24), (3, .long (leF tx lx i)), (5, .int (nI i))] ∧ w' = wSh a b c ex ey tx lx ty ly (nI n) ∧ z = n - i)], 60, n + 1, ?_, ?_⟩
    · intro y1 hq z lv w' hj
      rcases List.mem_cons.mp hq with rfl | hq
      · obtain ⟨i, hi, rfl, rfl, rfl⟩ := hj
        conv => whnf
        refine ⟨fun k => ?_, fun k => ?_⟩
        · have e : i = n := by
            have := (nI_leI (by omega) (by omega)).mp k
            omega
          subst e
          refine ⟨⟨_, rfl⟩, fun _ => rfl, ?_⟩
          intro m e hm
          have e : i = m := nI_inj (by omega) (by omega) e
          subst e
          rfl
        · have hi2 : i < n := by
            rcases Nat.lt_or_ge i n with z | z
            · exact z
            · exact absurd (nI_le z (by omega)) k
          have hcl : (nI i).toNatClampNeg = i := nI_clamp (by omega)
          have hv : vp_in (nI i) 6 := vp_in_nI (by omega) (by omega)
          conv => whnf
          refine ⟨hv, ?_⟩
          conv => whnf
          refine ⟨hv, ?_⟩
          conv => whnf
          refine ⟨⟨_, _, rfl, rfl, trivial⟩, ?_⟩
          intro r hr
          have hr : r = flr (tx (nI i).toNatClampNeg) (lx (nI i).toNatClampNeg) := hr
          rw [hcl] at hr
          subst hr
          conv => whnf
          refine ⟨⟨_, _, rfl, rfl, trivial⟩, ?_⟩
          intro r hr
          have hr : r = if flr (tx i) (lx i) < leF tx lx i then flr (tx i) (lx i) else leF tx lx i := hr
          have hr : r = leF tx lx (i + 1) := hr
          subst hr
          conv => whnf
          rintro _ rfl
          conv => whnf
          rintro _ rfl
          conv => whnf
          refine ⟨n - (i + 1), by omega, i + 1, by omega, ?_, rfl, rfl⟩
          show [_, _, _, _, (5, Value.int (nI i + 1))] = _
          rw [nI_1]
      · exact absurd hq List.not_mem_nil
    · conv => whnf
      rintro _ rfl
      conv => whnf
      rintro _ rfl
      conv => whnf
      refine ⟨n, by omega, 0, by omega, rfl, rfl, rfl⟩
  | true =>
    refine ⟨Nat.le_of_ble_eq_true rfl, [(7, [0, 1, 2, 3, 5], fun z lv w' => ∃ i : Nat, i ≤ n ∧ lv = [(0, .ref 17), (1, .ref 25), (2, .ref 26), (3, .long (leF ty ly i)), (5, .int (nI i))] ∧ w' = wSh a b c ex ey tx lx ty ly (nI n) ∧ z = n - i)], 60, n + 1, ?_, ?_⟩
    · intro y1 hq z lv w' hj
      rcases List.mem_cons.mp hq with rfl | hq
      · obtain ⟨i, hi, rfl, rfl, rfl⟩ := hj
        conv => whnf
        refine ⟨fun k => ?_, fun k => ?_⟩
        · have e : i = n := by
            have := (nI_leI (by omega) (by omega)).mp k
            omega
          subst e
          refine ⟨⟨_, rfl⟩, fun _ => rfl, ?_⟩
          intro m e hm
          have e : i = m := nI_inj (by omega) (by omega) e
          subst e
          rfl
        · have hi2 : i < n := by
            rcases Nat.lt_or_ge i n with z | z
            · exact z
            · exact absurd (nI_le z (by omega)) k
          have hcl : (nI i).toNatClampNeg = i := nI_clamp (by omega)
          have hv : vp_in (nI i) 6 := vp_in_nI (by omega) (by omega)
          conv => whnf
          refine ⟨hv, ?_⟩
          conv => whnf
          refine ⟨hv, ?_⟩
          conv => whnf
          refine ⟨⟨_, _, rfl, rfl, trivial⟩, ?_⟩
          intro r hr
          have hr : r = flr (ty (nI i).toNatClampNeg) (ly (nI i).toNatClampNeg) := hr
          rw [hcl] at hr
          subst hr
          conv => whnf
          refine ⟨⟨_, _, rfl, rfl, trivial⟩, ?_⟩
          intro r hr
          have hr : r = if flr (ty i) (ly i) < leF ty ly i then flr (ty i) (ly i) else leF ty ly i := hr
          have hr : r = leF ty ly (i + 1) := hr
          subst hr
          conv => whnf
          rintro _ rfl
          conv => whnf
          rintro _ rfl
          conv => whnf
          refine ⟨n - (i + 1), by omega, i + 1, by omega, ?_, rfl, rfl⟩
          show [_, _, _, _, (5, Value.int (nI i + 1))] = _
          rw [nI_1]
      · exact absurd hq List.not_mem_nil
    · conv => whnf
      rintro _ rfl
      conv => whnf
      rintro _ rfl
      conv => whnf
      refine ⟨n, by omega, 0, by omega, rfl, rfl, rfl⟩
theorem rv_X4_least : rz_Rv yX4_least.cls ce_X4_least := fun av w h => by
  obtain ⟨_, _, _, _, _, _, _, _, _, _, _, rfl, rfl, _⟩ := h
  exact ⟨_, _, _, _, _, _, rfl, rfl, rfl⟩
theorem cn_X4_least (l : Launch) : rz_Con l yX4_least cX4_least 6 (some .int) 2 0 0 ce_X4_least := rz_con (by decide +kernel) fo_X4 (by
  intro q hq
  rcases List.mem_cons.mp hq with rfl | hq
  · exact rz_callS (cn_X4_floor l) (by decide +kernel) ⟨Nat.le_of_ble_eq_true rfl, Nat.le_of_ble_eq_true rfl⟩ m_X4_floor t_X4_floor n_X4_95
  rcases List.mem_cons.mp hq with rfl | hq
  · exact rz_callS (cn_J9_min_f86c9 l) (by decide +kernel) ⟨Nat.le_of_ble_eq_true rfl, Nat.le_of_ble_eq_true rfl⟩ m_J9_min_f86c9 t_J9_min_f86c9 n_X4_98
  exact absurd hq List.not_mem_nil) (fun _ h => absurd h List.not_mem_nil) r_X4_least vc_X4_least
def ce_X4_greatest : rz_K := (3, kSh, 0, true, fun av w => ∃ (a b c ex ey tx lx ty ly : Nat → Int64) (n : Nat) (q : Bool), av = [.ref 17, .ref (if q then 25 else 23), .ref (if q then 26 else 24)] ∧ w = wSh a b c ex ey tx lx ty ly (nI n) ∧ n ≤ 6, fun av w o _ => ∀ n, rF w 17 9 = nI n → n ≤ 6 → rR o = (grF (rJ w (rP av 1)) (rJ w (rP av 2)) n).toInt32)
def cl_X4_greatest : List (Nat × rz_K) := [(95, ce_X4_floor), (103, ce_J9_max_f86c9)]
def cv_X4_greatest : List (Nat × rz_K) := []
theorem vc_X4_greatest : rz_VC k_X4_greatest fl_X4 cl_X4_greatest cv_X4_greatest s_X4_greatest false 6 ce_X4_greatest := by
  intro av w hlen hk hpre
  obtain ⟨a, b, c, ex, ey, tx, lx, ty, ly, n, q, rfl, rfl, hn⟩ := hpre
  cases q with
  | false =>
    refine ⟨Nat.le_of_ble_eq_true rfl, [(7, [0, 1, 2, 3, 5], fun z lv w' => ∃ i : Nat, i ≤ n ∧ lv = [(0, .ref 17), (1, .ref 23), (2, .ref 24), (3, .long (grF tx lx i)), (5, .int (nI i))] ∧ w' = wSh a b c ex ey tx lx ty ly (nI n) ∧ z = n - i)], 60, n + 1, ?_, ?_⟩
    · intro y1 hq z lv w' hj
      rcases List.mem_cons.mp hq with rfl | hq
      · obtain ⟨i, hi, rfl, rfl, rfl⟩ := hj
        conv => whnf
        refine ⟨fun k => ?_, fun k => ?_⟩
        · have e : i = n := by
            have := (nI_leI (by omega) (by omega)).mp k
            omega
          subst e
          refine ⟨⟨_, rfl⟩, fun _ => rfl, ?_⟩
          intro m e hm
          have e : i = m := nI_inj (by omega) (by omega) e
          subst e
          rfl
        · have hi2 : i < n := by
            rcases Nat.lt_or_ge i n with z | z
            · exact z
            · exact absurd (nI_le z (by omega)) k
          have hcl : (nI i).toNatClampNeg = i := nI_clamp (by omega)
          have hv : vp_in (nI i) 6 := vp_in_nI (by omega) (by omega)
          conv => whnf
          refine ⟨hv, ?_⟩
          conv => whnf
          refine ⟨hv, ?_⟩
          conv => whnf
          refine ⟨⟨_, _, rfl, rfl, trivial⟩, ?_⟩
          intro r hr
          have hr : r = flr (-tx (nI i).toNatClampNeg) (lx (nI i).toNatClampNeg) := hr
          rw [hcl] at hr
          subst hr
          conv => whnf
          refine ⟨⟨_, _, rfl, rfl, trivial⟩, ?_⟩
          intro r hr
          have hr : r = if grF tx lx i < -flr (-tx i) (lx i) then -flr (-tx i) (lx i) else grF tx lx i := hr
          have hr : r = grF tx lx (i + 1) := hr
          subst hr
          conv => whnf
          rintro _ rfl
          conv => whnf
          rintro _ rfl
          conv => whnf
          refine ⟨n - (i + 1), by omega, i + 1, by omega, ?_, rfl, rfl⟩
          show [_, _, _, _, (5, Value.int (nI i + 1))] = _
          rw [nI_1]
      · exact absurd hq List.not_mem_nil
    · conv => whnf
      rintro _ rfl
      conv => whnf
      rintro _ rfl
      conv => whnf
      refine ⟨n, by omega, 0, by omega, rfl, rfl, rfl⟩
  | true =>
    refine ⟨Nat.le_of_ble_eq_true rfl, [(7, [0, 1, 2, 3, 5], fun z lv w' => ∃ i : Nat, i ≤ n ∧ lv = [(0, .ref 17), (1, .ref 25), (2, .ref 26), (3, .long (grF ty ly i)), (5, .int (nI i))] ∧ w' = wSh a b c ex ey tx lx ty ly (nI n) ∧ z = n - i)], 60, n + 1, ?_, ?_⟩
    · intro y1 hq z lv w' hj
      rcases List.mem_cons.mp hq with rfl | hq
      · obtain ⟨i, hi, rfl, rfl, rfl⟩ := hj
        conv => whnf
        refine ⟨fun k => ?_, fun k => ?_⟩
        · have e : i = n := by
            have := (nI_leI (by omega) (by omega)).mp k
            omega
          subst e
          refine ⟨⟨_, rfl⟩, fun _ => rfl, ?_⟩
          intro m e hm
          have e : i = m := nI_inj (by omega) (by omega) e
          subst e
          rfl
        · have hi2 : i < n := by
            rcases Nat.lt_or_ge i n with z | z
            · exact z
            · exact absurd (nI_le z (by omega)) k
          have hcl : (nI i).toNatClampNeg = i := nI_clamp (by omega)
          have hv : vp_in (nI i) 6 := vp_in_nI (by omega) (by omega)
          conv => whnf
          refine ⟨hv, ?_⟩
          conv => whnf
          refine ⟨hv, ?_⟩
          conv => whnf
          refine ⟨⟨_, _, rfl, rfl, trivial⟩, ?_⟩
          intro r hr
          have hr : r = flr (-ty (nI i).toNatClampNeg) (ly (nI i).toNatClampNeg) := hr
          rw [hcl] at hr
          subst hr
          conv => whnf
          refine ⟨⟨_, _, rfl, rfl, trivial⟩, ?_⟩
          intro r hr
          have hr : r = if grF ty ly i < -flr (-ty i) (ly i) then -flr (-ty i) (ly i) else grF ty ly i := hr
          have hr : r = grF ty ly (i + 1) := hr
          subst hr
          conv => whnf
          rintro _ rfl
          conv => whnf
          rintro _ rfl
          conv => whnf
          refine ⟨n - (i + 1), by omega, i + 1, by omega, ?_, rfl, rfl⟩
          show [_, _, _, _, (5, Value.int (nI i + 1))] = _
          rw [nI_1]
      · exact absurd hq List.not_mem_nil
    · conv => whnf
      rintro _ rfl
      conv => whnf
      rintro _ rfl
      conv => whnf
      refine ⟨n, by omega, 0, by omega, rfl, rfl, rfl⟩
theorem rv_X4_greatest : rz_Rv yX4_greatest.cls ce_X4_greatest := fun av w h => by
  obtain ⟨_, _, _, _, _, _, _, _, _, _, _, rfl, rfl, _⟩ := h
  exact ⟨_, _, _, _, _, _, rfl, rfl, rfl⟩
theorem cn_X4_greatest (l : Launch) : rz_Con l yX4_greatest cX4_greatest 6 (some .int) 2 0 0 ce_X4_greatest := rz_con (by decide +kernel) fo_X4 (by
  intro q hq
  rcases List.mem_cons.mp hq with rfl | hq
  · exact rz_callS (cn_X4_floor l) (by decide +kernel) ⟨Nat.le_of_ble_eq_true rfl, Nat.le_of_ble_eq_true rfl⟩ m_X4_floor t_X4_floor n_X4_95
  rcases List.mem_cons.mp hq with rfl | hq
  · exact rz_callS (cn_J9_max_f86c9 l) (by decide +kernel) ⟨Nat.le_of_ble_eq_true rfl, Nat.le_of_ble_eq_true rfl⟩ m_J9_max_f86c9 t_J9_max_f86c9 n_X4_103
  exact absurd hq List.not_mem_nil) (fun _ h => absurd h List.not_mem_nil) r_X4_greatest vc_X4_greatest
def bxF (tx lx ty ly : Nat → Int64) (n : Nat) (q : Int32) : Int32 := if q = 0 then (leF tx lx n).toInt32 else if q = 1 then (leF ty ly n).toInt32 else if q = 2 then (grF tx lx n).toInt32 else (grF ty ly n).toInt32
def ce_X4_boxSide : rz_K := (2, kSh, 0, true, fun av w => ∃ (a b c ex ey tx lx ty ly : Nat → Int64) (n : Nat) (q : Int32), av = [.ref 17, .int q] ∧ w = wSh a b c ex ey tx lx ty ly (nI n) ∧ n ≤ 6, fun av w o _ => ∀ n, rF w 17 9 = nI n → n ≤ 6 → rR o = bxF (rJ w 23) (rJ w 24) (rJ w 25) (rJ w 26) n (rA av 1))
def cl_X4_boxSide : List (Nat × rz_K) := []
def cv_X4_boxSide : List (Nat × rz_K) := [(86, ce_X4_least), (90, ce_X4_greatest)]
theorem vc_X4_boxSide : rz_VC k_X4_boxSide fl_X4 cl_X4_boxSide cv_X4_boxSide s_X4_boxSide false 2 ce_X4_boxSide := by
  intro av w hlen hk hpre
  obtain ⟨a, b, c, ex, ey, tx, lx, ty, ly, n, q, rfl, rfl, hn⟩ := hpre
  refine ⟨Nat.le_of_ble_eq_true rfl, [], 60, 0, fun q h => absurd h List.not_mem_nil, ?_⟩
  have fin : ∀ v : Int32, v = bxF tx lx ty ly n q → rz_end ce_X4_boxSide [.ref 17, .int q] (wSh a b c ex ey tx lx ty ly (nI n)) (some (.int v)) (wSh a b c ex ey tx lx ty ly (nI n)) := by
    intro v hv
    refine ⟨⟨_, rfl⟩, fun _ => rfl, ?_⟩
    intro m e hm
    have e : n = m := nI_inj (by omega) (by omega) e
    subst e
    exact hv
  conv => whnf
  refine ⟨fun h0 => ?_, fun h0 => ?_⟩
  · conv => whnf
    refine ⟨⟨a, b, c, ex, ey, tx, lx, ty, ly, n, false, rfl, rfl, hn⟩, ?_⟩
    intro r hr
    obtain rfl : r = (leF tx lx n).toInt32 := hr n rfl hn
    conv => whnf
    exact fin _ (by rw [bxF, if_pos h0])
  · conv => whnf
    refine ⟨fun h1 => ?_, fun h1 => ?_⟩
    · conv => whnf
      refine ⟨⟨a, b, c, ex, ey, tx, lx, ty, ly, n, true, rfl, rfl, hn⟩, ?_⟩
      intro r hr
      obtain rfl : r = (leF ty ly n).toInt32 := hr n rfl hn
      conv => whnf
      exact fin _ (by rw [bxF, if_neg h0, if_pos h1])
    · conv => whnf
      refine ⟨fun h2 => ?_, fun h2 => ?_⟩
      · conv => whnf
        refine ⟨⟨a, b, c, ex, ey, tx, lx, ty, ly, n, false, rfl, rfl, hn⟩, ?_⟩
        intro r hr
        obtain rfl : r = (grF tx lx n).toInt32 := hr n rfl hn
        conv => whnf
        exact fin _ (by rw [bxF, if_neg h0, if_neg h1, if_pos h2])
      · conv => whnf
        refine ⟨⟨a, b, c, ex, ey, tx, lx, ty, ly, n, true, rfl, rfl, hn⟩, ?_⟩
        intro r hr
        obtain rfl : r = (grF ty ly n).toInt32 := hr n rfl hn
        conv => whnf
        exact fin _ (by rw [bxF, if_neg h0, if_neg h1, if_neg h2])
theorem rv_X4_boxSide : rz_Rv yX4_boxSide.cls ce_X4_boxSide := fun av w h => by
  obtain ⟨_, _, _, _, _, _, _, _, _, _, _, rfl, rfl, _⟩ := h
  exact ⟨_, _, _, _, _, _, rfl, rfl, rfl⟩
theorem cn_X4_boxSide (l : Launch) : rz_Con l yX4_boxSide cX4_boxSide 2 (some .int) 3 0 0 ce_X4_boxSide := rz_con (by decide +kernel) fo_X4 (fun _ h => absurd h List.not_mem_nil) (by
  intro q hq
  rcases List.mem_cons.mp hq with rfl | hq
  · exact rz_callV (cn_X4_least l) (by decide +kernel) ⟨Nat.le_of_ble_eq_true rfl, Nat.le_of_ble_eq_true rfl⟩ m_X4_least rfl i_X4_least v_X4_least rv_X4_least n_X4_86
  rcases List.mem_cons.mp hq with rfl | hq
  · exact rz_callV (cn_X4_greatest l) (by decide +kernel) ⟨Nat.le_of_ble_eq_true rfl, Nat.le_of_ble_eq_true rfl⟩ m_X4_greatest rfl i_X4_greatest v_X4_greatest rv_X4_greatest n_X4_90
  exact absurd hq List.not_mem_nil) r_X4_boxSide vc_X4_boxSide
end
section
/-! Sightings of the class; CoastWatch's meet. -/
def ce_X5_has : rz_K := (2, kSg, 0, true, fun av w => ∃ (fx fy mi ax ay bx b2 : Nat → Int32) (n s : Int32), av = [.ref 9, .int s] ∧ w = wSg fx fy mi ax ay bx b2 n ∧ True, fun av w o _ => rR o = bI (0 ≤ rA av 1 ∧ rA av 1 ≤ rF w 9 7 - 1))
def cl_X5_has : List (Nat × rz_K) := [(37, ce_X6_isWithin)]
def cv_X5_has : List (Nat × rz_K) := []
theorem vc_X5_has : rz_VC k_X5_has fl_X5 cl_X5_has cv_X5_has s_X5_has true 2 ce_X5_has := by
  intro av w hlen hk hpre
  obtain ⟨fx, fy, mi, ax, ay, bx, b2, n, s, rfl, rfl, -⟩ := hpre
  refine ⟨Nat.le_of_ble_eq_true rfl, [], 30, 0, fun q h => absurd h List.not_mem_nil, ?_⟩
  conv => whnf
  refine ⟨⟨_, _, _, rfl, rfl, trivial⟩, ?_⟩
  intro r hr
  conv => whnf
  refine ⟨?_, ⟨_, rfl⟩, fun _ => rfl, hr⟩
  rw [show r = _ from hr]
  exact bI_01 _
theorem rv_X5_has : rz_Rv yX5_has.cls ce_X5_has := fun av w h => by
  obtain ⟨_, _, _, _, _, _, _, _, _, rfl, rfl, _⟩ := h
  exact ⟨_, _, _, _, _, _, rfl, rfl, rfl⟩
theorem cn_X5_has (l : Launch) : rz_Con l yX5_has cX5_has 2 (some .boolean) 1 0 0 ce_X5_has := rz_con (by decide +kernel) fo_X5 (by
  intro q hq
  rcases List.mem_cons.mp hq with rfl | hq
  · exact rz_callSN (cn_X6_isWithin l) (by decide +kernel) ⟨Nat.le_of_ble_eq_true rfl, Nat.le_of_ble_eq_true rfl⟩ m_X6_isWithin t_X6_isWithin n_X5_37
  exact absurd hq List.not_mem_nil) (fun _ h => absurd h List.not_mem_nil) r_X5_has vc_X5_has
abbrev cmP (fx fy mi : Nat → Int32) (s t : Nat) : Prop := mi s = mi t ∧ ¬ (fx s = fx t ∧ fy s = fy t)
def ce_X5_canMeet : rz_K := (3, kSg, 0, true, fun av w => ∃ (fx fy mi ax ay bx b2 : Nat → Int32) (n s t : Int32), av = [.ref 9, .int s, .int t] ∧ w = wSg fx fy mi ax ay bx b2 n ∧ vp_in s 100 ∧ vp_in t 100, fun av w o _ => rR o = bI (cmP (rI w 10) (rI w 11) (rI w 12) (rA av 1).toNatClampNeg (rA av 2).toNatClampNeg))
def cl_X5_canMeet : List (Nat × rz_K) := []
def cv_X5_canMeet : List (Nat × rz_K) := []
theorem vc_X5_canMeet : rz_VC k_X5_canMeet fl_X5 cl_X5_canMeet cv_X5_canMeet s_X5_canMeet true 4 ce_X5_canMeet := by
  intro av w hlen hk hpre
  obtain ⟨fx, fy, mi, ax, ay, bx, b2, n, s, t, rfl, rfl, hs, ht⟩ := hpre
  refine ⟨Nat.le_of_ble_eq_true rfl, [(36, [0, 1, 2, 3], fun z lv w' => lv = [(0, .ref 9), (1, .int s), (2, .int t), (3, .int (bI (fx s.toNatClampNeg = fx t.toNatClampNeg ∧ fy s.toNatClampNeg = fy t.toNatClampNeg)))] ∧ w' = wSg fx fy mi ax ay bx b2 n ∧ z = 0)], 60, 1, ?_, ?_⟩
  · intro y1 hq z lv w' hj
    rcases List.mem_cons.mp hq with rfl | hq
    · obtain ⟨rfl, rfl, rfl⟩ := hj
      conv => whnf
      refine ⟨hs, ?_⟩
      conv => whnf
      refine ⟨ht, ?_⟩
      conv => whnf
      refine ⟨fun h => ?_, fun h => ?_⟩
      · conv => whnf
        refine ⟨fun h2 => ?_, fun h2 => ?_⟩
        · exact ⟨Or.inr rfl, ⟨_, rfl⟩, fun _ => rfl, bI_t ⟨h, bI_0 h2⟩⟩
        · exact ⟨Or.inl rfl, ⟨_, rfl⟩, fun _ => rfl, bI_f (fun z => z.2 (bI_n h2))⟩
      · exact ⟨Or.inl rfl, ⟨_, rfl⟩, fun _ => rfl, bI_f (fun z => h z.1)⟩
    · exact absurd hq List.not_mem_nil
  · conv => whnf
    refine ⟨hs, ?_⟩
    conv => whnf
    refine ⟨ht, ?_⟩
    conv => whnf
    refine ⟨fun h => ?_, fun h => ?_⟩
    · conv => whnf
      refine ⟨hs, ?_⟩
      conv => whnf
      refine ⟨ht, ?_⟩
      conv => whnf
      refine ⟨fun h2 => ?_, fun h2 => ?_⟩
      · conv => whnf
        rintro _ rfl
        conv => whnf
        refine ⟨0, by omega, ?_, rfl, rfl⟩
        show [_, _, _, (3, Value.int 1)] = _
        rw [bI_t (c := fx s.toNatClampNeg = fx t.toNatClampNeg ∧ fy s.toNatClampNeg = fy t.toNatClampNeg) ⟨h, h2⟩]
      · conv => whnf
        rintro _ rfl
        conv => whnf
        refine ⟨0, by omega, ?_, rfl, rfl⟩
        show [_, _, _, (3, Value.int 0)] = _
        rw [bI_f (c := fx s.toNatClampNeg = fx t.toNatClampNeg ∧ fy s.toNatClampNeg = fy t.toNatClampNeg) (fun z => h2 z.2)]
    · conv => whnf
      rintro _ rfl
      conv => whnf
      refine ⟨0, by omega, ?_, rfl, rfl⟩
      show [_, _, _, (3, Value.int 0)] = _
      rw [bI_f (c := fx s.toNatClampNeg = fx t.toNatClampNeg ∧ fy s.toNatClampNeg = fy t.toNatClampNeg) (fun z => h z.1)]
theorem rv_X5_canMeet : rz_Rv yX5_canMeet.cls ce_X5_canMeet := fun av w h => by
  obtain ⟨_, _, _, _, _, _, _, _, _, _, rfl, rfl, _⟩ := h
  exact ⟨_, _, _, _, _, _, rfl, rfl, rfl⟩
theorem cn_X5_canMeet (l : Launch) : rz_Con l yX5_canMeet cX5_canMeet 4 (some .boolean) 0 0 0 ce_X5_canMeet := rz_con (by decide +kernel) fo_X5 (fun _ h => absurd h List.not_mem_nil) (fun _ h => absurd h List.not_mem_nil) r_X5_canMeet vc_X5_canMeet
def ce_X5_add : rz_K := (4, kSg, 0, false, fun av w => ∃ (fx fy mi ax ay bx b2 : Nat → Int32) (x y m : Int32) (n : Nat), av = [.ref 9, .int x, .int y, .int m] ∧ w = wSg fx fy mi ax ay bx b2 (nI n) ∧ n ≤ 100, fun av w o w' => ∀ n, rF w 9 7 = nI n → n ≤ 100 → if n < 100 then rR o = nI n ∧ w' = wSg (upd (rI w 10) n (rA av 1)) (upd (rI w 11) n (rA av 2)) (upd (rI w 12) n (rA av 3)) (rI w 13) (rI w 14) (rI w 15) (rI w 16) (nI (n + 1)) else rR o = -1 ∧ w' = w)
def cl_X5_add : List (Nat × rz_K) := []
def cv_X5_add : List (Nat × rz_K) := []
theorem vc_X5_add : rz_VC k_X5_add fl_X5 cl_X5_add cv_X5_add s_X5_add false 4 ce_X5_add := by
  intro av w hlen hk hpre
  obtain ⟨fx, fy, mi, ax, ay, bx, b2, x, y, m, n, rfl, rfl, hn⟩ := hpre
  refine ⟨Nat.le_of_ble_eq_true rfl, [], 60, 0, fun q h => absurd h List.not_mem_nil, ?_⟩
  conv => whnf
  refine ⟨fun c => ?_, fun c => ?_⟩
  · have c : nI n < nI 100 := c
    have hn2 : n < 100 := (nI_ltI (by omega) (by omega)).mp c
    have hv : vp_in (nI n) 100 := vp_in_nI hn2 (by omega)
    conv => whnf
    refine ⟨hv, ?_⟩
    conv => whnf
    refine ⟨hv, ?_⟩
    conv => whnf
    refine ⟨hv, ?_⟩
    conv => whnf
    refine ⟨⟨_, rfl⟩, fun z => (by cases z), ?_⟩
    intro n' e hn'
    have e : n = n' := nI_inj (by omega) (by omega) e
    subst e
    refine if_yes hn2 ⟨?_, ?_⟩
    · show nI n + 1 - 1 = nI n
      exact i32_asc _
    · show wSg (upd fx (nI n).toNatClampNeg x) (upd fy (nI n).toNatClampNeg y) (upd mi (nI n).toNatClampNeg m) ax ay bx b2 (nI n + 1) = _
      rw [nI_1, nI_clamp (by omega)]
      rfl
  · have c : ¬ nI n < nI 100 := c
    refine ⟨⟨_, rfl⟩, fun z => (by cases z), ?_⟩
    intro n' e hn'
    have e : n = n' := nI_inj (by omega) (by omega) e
    subst e
    exact if_no (fun z => c (nI_lt z (by omega))) ⟨rfl, rfl⟩
theorem rv_X5_add : rz_Rv yX5_add.cls ce_X5_add := fun av w h => by
  obtain ⟨_, _, _, _, _, _, _, _, _, _, _, rfl, rfl, _⟩ := h
  exact ⟨_, _, _, _, _, _, rfl, rfl, rfl⟩
theorem cn_X5_add (l : Launch) : rz_Con l yX5_add cX5_add 4 (some .int) 0 0 0 ce_X5_add := rz_con (by decide +kernel) fo_X5 (fun _ h => absurd h List.not_mem_nil) (fun _ h => absurd h List.not_mem_nil) r_X5_add vc_X5_add
def ce_X5_setEdges : rz_K := (6, kSg, 2, false, fun av w => ∃ (fx fy mi ax ay bx b2 : Nat → Int32) (n s a b c d : Int32), av = [.ref 9, .int s, .int a, .int b, .int c, .int d] ∧ w = wSg fx fy mi ax ay bx b2 n ∧ vp_in s 100, fun av w _ w' => w' = wSg (rI w 10) (rI w 11) (rI w 12) (upd (rI w 13) (rA av 1).toNatClampNeg (rA av 2)) (upd (rI w 14) (rA av 1).toNatClampNeg (rA av 3)) (upd (rI w 15) (rA av 1).toNatClampNeg (rA av 4)) (upd (rI w 16) (rA av 1).toNatClampNeg (rA av 5)) (rF w 9 7))
def cl_X5_setEdges : List (Nat × rz_K) := []
def cv_X5_setEdges : List (Nat × rz_K) := []
theorem vc_X5_setEdges : rz_VC k_X5_setEdges fl_X5 cl_X5_setEdges cv_X5_setEdges s_X5_setEdges false 6 ce_X5_setEdges := by
  intro av w hlen hk hpre
  obtain ⟨fx, fy, mi, ax, ay, bx, b2, n, s, a, b, c, d, rfl, rfl, hs⟩ := hpre
  refine ⟨Nat.le_of_ble_eq_true rfl, [], 60, 0, fun q h => absurd h List.not_mem_nil, ?_⟩
  conv => whnf
  refine ⟨hs, ?_⟩
  conv => whnf
  refine ⟨hs, ?_⟩
  conv => whnf
  refine ⟨hs, ?_⟩
  conv => whnf
  refine ⟨hs, ?_⟩
  conv => whnf
  exact ⟨rfl, fun z => (by cases z), rfl⟩
theorem rv_X5_setEdges : rz_Rv yX5_setEdges.cls ce_X5_setEdges := fun av w h => by
  obtain ⟨_, _, _, _, _, _, _, _, _, _, _, _, _, rfl, rfl, _⟩ := h
  exact ⟨_, _, _, _, _, _, rfl, rfl, rfl⟩
theorem cn_X5_setEdges (l : Launch) : rz_Con l yX5_setEdges cX5_setEdges 6 none 0 0 0 ce_X5_setEdges := rz_con (by decide +kernel) fo_X5 (fun _ h => absurd h List.not_mem_nil) (fun _ h => absurd h List.not_mem_nil) r_X5_setEdges vc_X5_setEdges
abbrev wSS (fx fy mi ax ay bx b2 : Nat → Int32) (n : Int32) (a b c ex ey tx lx ty ly : Nat → Int64) (co : Int32) : rz_W := [(9, ro 5 [.ref 10, .ref 11, .ref 12, .ref 13, .ref 14, .ref 15, .ref 16, .int n]), (10, ri 100 fx), (11, ri 100 fy), (12, ri 100 mi), (13, ri 100 ax), (14, ri 100 ay), (15, ri 100 bx), (16, ri 100 b2), (17, ro 4 [.ref 18, .ref 19, .ref 20, .ref 21, .ref 22, .ref 23, .ref 24, .ref 25, .ref 26, .int co]), (18, rl 4 a), (19, rl 4 b), (20, rl 4 c), (21, rl 4 ex), (22, rl 4 ey), (23, rl 6 tx), (24, rl 6 lx), (25, rl 6 ty), (26, rl 6 ly)]
abbrev kSS : List Nat := [9, 10, 11, 12, 13, 14, 15, 16, 17, 18, 19, 20, 21, 22, 23, 24, 25, 26]
abbrev up2 (f : Nat → Int64) (q : Nat) (x y : Int64) : Nat → Int64 := vp_updL (vp_updL f q x) (q + 1) y
def ce_X5_putHalfPlanes : rz_K := (4, kSS, 2, false, fun av w => ∃ (fx fy mi ax ay bx b2 : Nat → Int32) (n : Int32) (a b c ex ey tx lx ty ly : Nat → Int64) (co s : Int32) (q : Nat), av = [.ref 9, .int s, .int (nI q), .ref 17] ∧ w = wSS fx fy mi ax ay bx b2 n a b c ex ey tx lx ty ly co ∧ vp_in s 100 ∧ q < 3, fun av w _ w' => ∀ q, rA av 2 = nI q → q < 3 → w' = wSS (rI w 10) (rI w 11) (rI w 12) (rI w 13) (rI w 14) (rI w 15) (rI w 16) (rF w 9 7) (up2 (rJ w 18) q (-(rI w 14 (rA av 1).toNatClampNeg)).toInt64 (-(-(rI w 16 (rA av 1).toNatClampNeg))).toInt64) (up2 (rJ w 19) q (rI w 13 (rA av 1).toNatClampNeg).toInt64 (-(rI w 15 (rA av 1).toNatClampNeg)).toInt64) (up2 (rJ w 20) q (-(rI w 14 (rA av 1).toNatClampNeg) * rI w 10 (rA av 1).toNatClampNeg + rI w 13 (rA av 1).toNatClampNeg * rI w 11 (rA av 1).toNatClampNeg).toInt64 (-(-(rI w 16 (rA av 1).toNatClampNeg)) * rI w 10 (rA av 1).toNatClampNeg + -(rI w 15 (rA av 1).toNatClampNeg) * rI w 11 (rA av 1).toNatClampNeg).toInt64) (up2 (rJ w 21) q (rI w 13 (rA av 1).toNatClampNeg).toInt64 (rI w 15 (rA av 1).toNatClampNeg).toInt64) (up2 (rJ w 22) q (rI w 14 (rA av 1).toNatClampNeg).toInt64 (rI w 16 (rA av 1).toNatClampNeg).toInt64) (rJ w 23) (rJ w 24) (rJ w 25) (rJ w 26) (rF w 17 9))
def cl_X5_putHalfPlanes : List (Nat × rz_K) := []
def cv_X5_putHalfPlanes : List (Nat × rz_K) := [(41, ce_X4_putLeftSide), (47, ce_X4_putEdge)]
theorem vc_X5_putHalfPlanes : rz_VC k_X5_putHalfPlanes fl_X5 cl_X5_putHalfPlanes cv_X5_putHalfPlanes s_X5_putHalfPlanes false 4 ce_X5_putHalfPlanes := by
  intro av w hlen hk hpre
  obtain ⟨fx, fy, mi, ax, ay, bx, b2, n, a, b, c, ex, ey, tx, lx, ty, ly, co, s, q, rfl, rfl, hs, hq⟩ := hpre
  have hv0 : vp_in (nI q) 4 := vp_in_nI (by omega) (by omega)
  have hv1 : vp_in (nI q + 1) 4 := by rw [nI_1]; exact vp_in_nI (by omega) (by omega)
  have hc0 : (nI q).toNatClampNeg = q := nI_clamp (by omega)
  have hc1 : (nI q + 1).toNatClampNeg = q + 1 := by rw [nI_1]; exact nI_clamp (by omega)
  generalize hA : (-(ay s.toNatClampNeg)).toInt64 = A1
  generalize hA2 : (-(-(b2 s.toNatClampNeg))).toInt64 = A2
  generalize hB : (ax s.toNatClampNeg).toInt64 = B1
  generalize hB2 : (-(bx s.toNatClampNeg)).toInt64 = B2
  generalize hC : (-(ay s.toNatClampNeg) * fx s.toNatClampNeg + ax s.toNatClampNeg * fy s.toNatClampNeg).toInt64 = C1
  generalize hC2 : (-(-(b2 s.toNatClampNeg)) * fx s.toNatClampNeg + -(bx s.toNatClampNeg) * fy s.toNatClampNeg).toInt64 = C2
  refine ⟨Nat.le_of_ble_eq_true rfl, [
    (29, [0, 1, 2, 3], fun z lv w' => lv = [(0, .ref 9), (1, .int s), (2, .int (nI q)), (3, .ref 17)] ∧ w' = wSS fx fy mi ax ay bx b2 n (vp_updL a q A1) (vp_updL b q B1) (vp_updL c q C1) ex ey tx lx ty ly co ∧ z = 2),
    (62, [0, 1, 2, 3], fun z lv w' => lv = [(0, .ref 9), (1, .int s), (2, .int (nI q)), (3, .ref 17)] ∧ w' = wSS fx fy mi ax ay bx b2 n (up2 a q A1 A2) (up2 b q B1 B2) (up2 c q C1 C2) ex ey tx lx ty ly co ∧ z = 1),
    (79, [0, 1, 2, 3], fun z lv w' => lv = [(0, .ref 9), (1, .int s), (2, .int (nI q)), (3, .ref 17)] ∧ w' = wSS fx fy mi ax ay bx b2 n (up2 a q A1 A2) (up2 b q B1 B2) (up2 c q C1 C2) (vp_updL ex q (ax s.toNatClampNeg).toInt64) (vp_updL ey q (ay s.toNatClampNeg).toInt64) tx lx ty ly co ∧ z = 0)], 100, 3, ?_, ?_⟩
  · intro y1 hq1 z lv w' hj
    rcases List.mem_cons.mp hq1 with rfl | hq1
    · obtain ⟨rfl, rfl, rfl⟩ := hj
      conv => whnf
      refine ⟨hs, ?_⟩
      conv => whnf
      refine ⟨hs, ?_⟩
      conv => whnf
      refine ⟨hs, ?_⟩
      conv => whnf
      refine ⟨hs, ?_⟩
      conv => whnf
      refine ⟨⟨_, _, _, ex, ey, tx, lx, ty, ly, co, nI q + 1, _, _, _, _, rfl, rfl, hv1⟩, ?_⟩
      intro w2 hw2
      have hw2 : w2 = wSh (vp_updL (vp_updL a q A1) (nI q + 1).toNatClampNeg (-(-(b2 s.toNatClampNeg))).toInt64) (vp_updL (vp_updL b q B1) (nI q + 1).toNatClampNeg (-(bx s.toNatClampNeg)).toInt64) (vp_updL (vp_updL c q C1) (nI q + 1).toNatClampNeg (-(-(b2 s.toNatClampNeg)) * fx s.toNatClampNeg + -(bx s.toNatClampNeg) * fy s.toNatClampNeg).toInt64) ex ey tx lx ty ly co := hw2
      rw [hc1, hA2, hB2, hC2] at hw2
      subst hw2
      conv => whnf
      refine ⟨1, by omega, rfl, rfl, rfl⟩
    rcases List.mem_cons.mp hq1 with rfl | hq1
    · obtain ⟨rfl, rfl, rfl⟩ := hj
      conv => whnf
      refine ⟨hs, ?_⟩
      conv => whnf
      refine ⟨hs, ?_⟩
      conv => whnf
      refine ⟨⟨_, _, _, ex, ey, tx, lx, ty, ly, co, nI q, _, _, rfl, rfl, hv0⟩, ?_⟩
      intro w3 hw3
      have hw3 : w3 = wSh (up2 a q A1 A2) (up2 b q B1 B2) (up2 c q C1 C2) (vp_updL ex (nI q).toNatClampNeg (ax s.toNatClampNeg).toInt64) (vp_updL ey (nI q).toNatClampNeg (ay s.toNatClampNeg).toInt64) tx lx ty ly co := hw3
      rw [hc0] at hw3
      subst hw3
      conv => whnf
      refine ⟨0, by omega, rfl, rfl, rfl⟩
    rcases List.mem_cons.mp hq1 with rfl | hq1
    · obtain ⟨rfl, rfl, rfl⟩ := hj
      conv => whnf
      refine ⟨hs, ?_⟩
      conv => whnf
      refine ⟨hs, ?_⟩
      conv => whnf
      refine ⟨⟨_, _, _, _, _, tx, lx, ty, ly, co, nI q + 1, _, _, rfl, rfl, hv1⟩, ?_⟩
      intro w4 hw4
      have hw4 : w4 = wSh (up2 a q A1 A2) (up2 b q B1 B2) (up2 c q C1 C2) (vp_updL (vp_updL ex q (ax s.toNatClampNeg).toInt64) (nI q + 1).toNatClampNeg (bx s.toNatClampNeg).toInt64) (vp_updL (vp_updL ey q (ay s.toNatClampNeg).toInt64) (nI q + 1).toNatClampNeg (b2 s.toNatClampNeg).toInt64) tx lx ty ly co := hw4
      rw [hc1] at hw4
      subst hw4
      conv => whnf
      refine ⟨rfl, fun z => (by cases z), ?_⟩
      intro q' e hq'
      have e : q = q' := nI_inj (by omega) (by omega) e
      subst e
      subst hA hA2 hB hB2 hC hC2
      rfl
    · exact absurd hq1 List.not_mem_nil
  · conv => whnf
    refine ⟨hs, ?_⟩
    conv => whnf
    refine ⟨hs, ?_⟩
    conv => whnf
    refine ⟨hs, ?_⟩
    conv => whnf
    refine ⟨hs, ?_⟩
    conv => whnf
    refine ⟨⟨a, b, c, ex, ey, tx, lx, ty, ly, co, nI q, _, _, _, _, rfl, rfl, hv0⟩, ?_⟩
    intro w1 hw1
    have hw1 : w1 = wSh (vp_updL a (nI q).toNatClampNeg (-(ay s.toNatClampNeg)).toInt64) (vp_updL b (nI q).toNatClampNeg (ax s.toNatClampNeg).toInt64) (vp_updL c (nI q).toNatClampNeg (-(ay s.toNatClampNeg) * fx s.toNatClampNeg + ax s.toNatClampNeg * fy s.toNatClampNeg).toInt64) ex ey tx lx ty ly co := hw1
    rw [hc0, hA, hB, hC] at hw1
    subst hw1
    conv => whnf
    refine ⟨2, by omega, rfl, rfl, rfl⟩
theorem rv_X5_putHalfPlanes : rz_Rv yX5_putHalfPlanes.cls ce_X5_putHalfPlanes := fun av w h => by
  obtain ⟨_, _, _, _, _, _, _, _, _, _, _, _, _, _, _, _, _, _, _, _, rfl, rfl, _⟩ := h
  exact ⟨_, _, _, _, _, _, rfl, rfl, rfl⟩
theorem cn_X5_putHalfPlanes (l : Launch) : rz_Con l yX5_putHalfPlanes cX5_putHalfPlanes 4 none 1 0 0 ce_X5_putHalfPlanes := rz_con (by decide +kernel) fo_X5 (fun _ h => absurd h List.not_mem_nil) (by
  intro q hq
  rcases List.mem_cons.mp hq with rfl | hq
  · exact rz_callVN (cn_X4_putLeftSide l) (by decide +kernel) ⟨Nat.le_of_ble_eq_true rfl, Nat.le_of_ble_eq_true rfl⟩ m_X4_putLeftSide rfl i_X4_putLeftSide v_X4_putLeftSide rv_X4_putLeftSide n_X5_41
  rcases List.mem_cons.mp hq with rfl | hq
  · exact rz_callVN (cn_X4_putEdge l) (by decide +kernel) ⟨Nat.le_of_ble_eq_true rfl, Nat.le_of_ble_eq_true rfl⟩ m_X4_putEdge rfl i_X4_putEdge v_X4_putEdge rv_X4_putEdge n_X5_47
  exact absurd hq List.not_mem_nil) r_X5_putHalfPlanes vc_X5_putHalfPlanes
end
section
/-! Plots of the class. -/
def gpF (l h m g : Int32) : Int64 := if h < m then m.toInt64 - h.toInt64 else if g < l then l.toInt64 - g.toInt64 else 0
def ce_X3_gap : rz_K := (4, [], 1, true, fun av w => ∃ l h m g : Int32, av = [.int l, .int h, .int m, .int g] ∧ w = [] ∧ True, fun av _ o _ => rS o = gpF (rA av 0) (rA av 1) (rA av 2) (rA av 3))
theorem vc_X3_gap : rz_VC k_X3_gap fl_X3 [] [] s_X3_gap false 4 ce_X3_gap := by
  intro av w hlen hk hpre
  obtain ⟨l, h, m, g, rfl, rfl, -⟩ := hpre
  refine ⟨Nat.le_of_ble_eq_true rfl, [], 30, 0, fun q h => absurd h List.not_mem_nil, ?_⟩
  have fin : ∀ v : Int64, v = gpF l h m g → rz_end ce_X3_gap [.int l, .int h, .int m, .int g] [] (some (.long v)) [] := fun v hv => ⟨⟨_, rfl⟩, fun _ => rfl, hv⟩
  conv => whnf
  refine ⟨fun k => ?_, fun k => ?_⟩
  · conv => whnf
    refine ⟨fun k2 => ?_, fun k2 => ?_⟩
    · exact fin _ (by rw [gpF, if_neg ((i32_not_lt _ _).mpr k), if_neg ((i32_not_lt _ _).mpr k2)])
    · exact fin _ (by rw [gpF, if_neg ((i32_not_lt _ _).mpr k), if_pos ((i32_not_le _ _).mp k2)])
  · exact fin _ (by rw [gpF, if_pos ((i32_not_le _ _).mp k)])
theorem cn_X3_gap (l : Launch) : rz_Con l yX3_gap cX3_gap 4 (some .long) 0 0 0 ce_X3_gap := rz_con (by decide +kernel) fo_X3 (fun _ h => absurd h List.not_mem_nil) (fun _ h => absurd h List.not_mem_nil) r_X3_gap vc_X3_gap
def sqF (le bo rg tp : Nat → Int32) (p q : Nat) : Int64 := gpF (le p) (rg p) (le q) (rg q) * gpF (le p) (rg p) (le q) (rg q) + gpF (bo p) (tp p) (bo q) (tp q) * gpF (bo p) (tp p) (bo q) (tp q)
def ce_X3_squaredDistance : rz_K := (3, kPl, 1, true, fun av w => ∃ (fi se mi tk le bo rg tp la : Nat → Int32) (sz tr sp p q : Int32), av = [.ref 27, .int p, .int q] ∧ w = wPl fi se mi tk le bo rg tp la sz tr sp ∧ vp_in p 60 ∧ vp_in q 60, fun av w o _ => rS o = sqF (rI w 32) (rI w 33) (rI w 34) (rI w 35) (rA av 1).toNatClampNeg (rA av 2).toNatClampNeg)
def cl_X3_squaredDistance : List (Nat × rz_K) := [(62, ce_X3_gap)]
def cv_X3_squaredDistance : List (Nat × rz_K) := []
theorem vc_X3_squaredDistance : rz_VC k_X3_squaredDistance fl_X3 cl_X3_squaredDistance cv_X3_squaredDistance s_X3_squaredDistance false 7 ce_X3_squaredDistance := by
  intro av w hlen hk hpre
  obtain ⟨fi, se, mi, tk, le, bo, rg, tp, la, sz, tr, sp, p, q, rfl, rfl, hp, hq⟩ := hpre
  refine ⟨Nat.le_of_ble_eq_true rfl, [], 60, 0, fun q h => absurd h List.not_mem_nil, ?_⟩
  conv => whnf
  refine ⟨hp, ?_⟩
  conv => whnf
  refine ⟨hp, ?_⟩
  conv => whnf
  refine ⟨hq, ?_⟩
  conv => whnf
  refine ⟨hq, ?_⟩
  conv => whnf
  refine ⟨⟨_, _, _, _, rfl, rfl, trivial⟩, ?_⟩
  intro r hr
  obtain rfl : r = gpF (le p.toNatClampNeg) (rg p.toNatClampNeg) (le q.toNatClampNeg) (rg q.toNatClampNeg) := hr
  conv => whnf
  rintro _ rfl
  conv => whnf
  refine ⟨hp, ?_⟩
  conv => whnf
  refine ⟨hp, ?_⟩
  conv => whnf
  refine ⟨hq, ?_⟩
  conv => whnf
  refine ⟨hq, ?_⟩
  conv => whnf
  refine ⟨⟨_, _, _, _, rfl, rfl, trivial⟩, ?_⟩
  intro r hr
  obtain rfl : r = gpF (bo p.toNatClampNeg) (tp p.toNatClampNeg) (bo q.toNatClampNeg) (tp q.toNatClampNeg) := hr
  conv => whnf
  rintro _ rfl
  exact ⟨⟨_, rfl⟩, fun _ => rfl, rfl⟩
theorem rv_X3_squaredDistance : rz_Rv yX3_squaredDistance.cls ce_X3_squaredDistance := fun av w h => by
  obtain ⟨_, _, _, _, _, _, _, _, _, _, _, _, _, _, rfl, rfl, _⟩ := h
  exact ⟨_, _, _, _, _, _, rfl, rfl, rfl⟩
theorem cn_X3_squaredDistance (l : Launch) : rz_Con l yX3_squaredDistance cX3_squaredDistance 7 (some .long) 1 0 0 ce_X3_squaredDistance := rz_con (by decide +kernel) fo_X3 (by
  intro q hq
  rcases List.mem_cons.mp hq with rfl | hq
  · exact rz_callS (cn_X3_gap l) (by decide +kernel) ⟨Nat.le_of_ble_eq_true rfl, Nat.le_of_ble_eq_true rfl⟩ m_X3_gap t_X3_gap n_X3_62
  exact absurd hq List.not_mem_nil) (fun _ h => absurd h List.not_mem_nil) r_X3_squaredDistance vc_X3_squaredDistance
abbrev duP (fi se : Nat → Int32) (x y : Int32) (p : Nat) : Prop := (fi p = x ∧ se p = y) ∨ (fi p = y ∧ se p = x)
def ce_X3_takes : rz_K := (3, kPl, 0, true, fun av w => ∃ (fi se mi tk le bo rg tp la : Nat → Int32) (tr sp x y : Int32) (n : Nat), av = [.ref 27, .int x, .int y] ∧ w = wPl fi se mi tk le bo rg tp la (nI n) tr sp ∧ n ≤ 60, fun av w o _ => ∀ n, rF w 27 9 = nI n → n ≤ 60 → rR o = bI (n < 60 ∧ ∀ p, p < n → ¬ duP (rI w 28) (rI w 29) (rA av 1) (rA av 2) p))
def cl_X3_takes : List (Nat × rz_K) := []
def cv_X3_takes : List (Nat × rz_K) := []
theorem vc_X3_takes : rz_VC k_X3_takes fl_X3 cl_X3_takes cv_X3_takes s_X3_takes true 6 ce_X3_takes := by
  intro av w hlen hk hpre
  obtain ⟨fi, se, mi, tk, le, bo, rg, tp, la, tr, sp, x, y, n, rfl, rfl, hn⟩ := hpre
  have fin : ∀ v : Int32, v = bI (n < 60 ∧ ∀ p, p < n → ¬ duP fi se x y p) → (v = 0 ∨ v = 1) ∧ rz_end ce_X3_takes [.ref 27, .int x, .int y] (wPl fi se mi tk le bo rg tp la (nI n) tr sp) (some (.int v)) (wPl fi se mi tk le bo rg tp la (nI n) tr sp) := by
    intro v hv
    refine ⟨by rw [hv]; exact bI_01 _, ⟨_, rfl⟩, fun _ => rfl, ?_⟩
    intro m e hm
    have e : n = m := nI_inj (by omega) (by omega) e
    subst e
    exact hv
  refine ⟨Nat.le_of_ble_eq_true rfl, [
    (2, [0, 1, 2, 3], fun z lv w' => ∃ i : Nat, i ≤ n ∧ (∀ p, p < i → ¬ duP fi se x y p) ∧ lv = [(0, .ref 27), (1, .int x), (2, .int y), (3, .int (nI i))] ∧ w' = wPl fi se mi tk le bo rg tp la (nI n) tr sp ∧ z = (n - i) * 10 + 5),
    (37, [0, 1, 2, 3, 4], fun z lv w' => ∃ i : Nat, i < n ∧ (∀ p, p < i → ¬ duP fi se x y p) ∧ lv = [(0, .ref 27), (1, .int x), (2, .int y), (3, .int (nI i)), (4, .int (bI (fi i = x ∧ se i = y)))] ∧ w' = wPl fi se mi tk le bo rg tp la (nI n) tr sp ∧ z = (n - i) * 10 + 4),
    (64, [0, 1, 2, 3, 4, 5], fun z lv w' => ∃ i : Nat, i < n ∧ (∀ p, p < i → ¬ duP fi se x y p) ∧ lv = [(0, .ref 27), (1, .int x), (2, .int y), (3, .int (nI i)), (4, .int (bI (fi i = x ∧ se i = y))), (5, .int (bI (fi i = y ∧ se i = x)))] ∧ w' = wPl fi se mi tk le bo rg tp la (nI n) tr sp ∧ z = (n - i) * 10 + 3)], 60, n * 10 + 6, ?_, ?_⟩
  · intro y1 hq z lv w' hj
    rcases List.mem_cons.mp hq with rfl | hq
    · obtain ⟨i, hi, hall, rfl, rfl, rfl⟩ := hj
      conv => whnf
      refine ⟨fun k => ?_, fun k => ?_⟩
      · have e : i = n := by
          have := (nI_leI (by omega) (by omega)).mp k
          omega
        subst e
        conv => whnf
        refine ⟨fun k2 => ?_, fun k2 => ?_⟩
        · have k2 : nI 60 ≤ nI i := k2
          have k2 := (nI_leI (by omega) (by omega)).mp k2
          exact fin _ (bI_f (fun z => by omega))
        · have k2 : ¬ nI 60 ≤ nI i := k2
          refine fin _ (bI_t ⟨?_, hall⟩)
          rcases Nat.lt_or_ge i 60 with z | z
          · exact z
          · exact absurd (nI_le z (by omega)) k2
      · have hi2 : i < n := by
          rcases Nat.lt_or_ge i n with z | z
          · exact z
          · exact absurd (nI_le z (by omega)) k
        have hcl : (nI i).toNatClampNeg = i := nI_clamp (by omega)
        have hv : vp_in (nI i) 60 := vp_in_nI (by omega) (by omega)
        conv => whnf
        refine ⟨hv, ?_⟩
        conv => whnf
        refine ⟨fun k1 => ?_, fun k1 => ?_⟩
        · have k1 : fi (nI i).toNatClampNeg = x := k1
          rw [hcl] at k1
          conv => whnf
          refine ⟨hv, ?_⟩
          conv => whnf
          refine ⟨fun k2 => ?_, fun k2 => ?_⟩
          · have k2 : se (nI i).toNatClampNeg = y := k2
            rw [hcl] at k2
            conv => whnf
            rintro _ rfl
            conv => whnf
            refine ⟨(n - i) * 10 + 4, by omega, i, hi2, hall, ?_, rfl, rfl⟩
            show [_, _, _, _, (4, Value.int 1)] = _
            rw [bI_t (c := fi i = x ∧ se i = y) ⟨k1, k2⟩]
          · have k2 : ¬ se (nI i).toNatClampNeg = y := k2
            rw [hcl] at k2
            conv => whnf
            rintro _ rfl
            conv => whnf
            refine ⟨(n - i) * 10 + 4, by omega, i, hi2, hall, ?_, rfl, rfl⟩
            show [_, _, _, _, (4, Value.int 0)] = _
            rw [bI_f (c := fi i = x ∧ se i = y) (fun z => k2 z.2)]
        · have k1 : ¬ fi (nI i).toNatClampNeg = x := k1
          rw [hcl] at k1
          conv => whnf
          rintro _ rfl
          conv => whnf
          refine ⟨(n - i) * 10 + 4, by omega, i, hi2, hall, ?_, rfl, rfl⟩
          show [_, _, _, _, (4, Value.int 0)] = _
          rw [bI_f (c := fi i = x ∧ se i = y) (fun z => k1 z.1)]
    rcases List.mem_cons.mp hq with rfl | hq
    · obtain ⟨i, hi2, hall, rfl, rfl, rfl⟩ := hj
      have hcl : (nI i).toNatClampNeg = i := nI_clamp (by omega)
      have hv : vp_in (nI i) 60 := vp_in_nI (by omega) (by omega)
      conv => whnf
      refine ⟨hv, ?_⟩
      conv => whnf
      refine ⟨fun k1 => ?_, fun k1 => ?_⟩
      · have k1 : fi (nI i).toNatClampNeg = y := k1
        rw [hcl] at k1
        conv => whnf
        refine ⟨hv, ?_⟩
        conv => whnf
        refine ⟨fun k2 => ?_, fun k2 => ?_⟩
        · have k2 : se (nI i).toNatClampNeg = x := k2
          rw [hcl] at k2
          conv => whnf
          rintro _ rfl
          conv => whnf
          refine ⟨(n - i) * 10 + 3, by omega, i, hi2, hall, ?_, rfl, rfl⟩
          show [_, _, _, _, _, (5, Value.int 1)] = _
          rw [bI_t (c := fi i = y ∧ se i = x) ⟨k1, k2⟩]
        · have k2 : ¬ se (nI i).toNatClampNeg = x := k2
          rw [hcl] at k2
          conv => whnf
          rintro _ rfl
          conv => whnf
          refine ⟨(n - i) * 10 + 3, by omega, i, hi2, hall, ?_, rfl, rfl⟩
          show [_, _, _, _, _, (5, Value.int 0)] = _
          rw [bI_f (c := fi i = y ∧ se i = x) (fun z => k2 z.2)]
      · have k1 : ¬ fi (nI i).toNatClampNeg = y := k1
        rw [hcl] at k1
        conv => whnf
        rintro _ rfl
        conv => whnf
        refine ⟨(n - i) * 10 + 3, by omega, i, hi2, hall, ?_, rfl, rfl⟩
        show [_, _, _, _, _, (5, Value.int 0)] = _
        rw [bI_f (c := fi i = y ∧ se i = x) (fun z => k1 z.1)]
    rcases List.mem_cons.mp hq with rfl | hq
    · obtain ⟨i, hi2, hall, rfl, rfl, rfl⟩ := hj
      conv => whnf
      refine ⟨fun k1 => ?_, fun k1 => ?_⟩
      · conv => whnf
        refine ⟨fun k2 => ?_, fun k2 => ?_⟩
        · conv => whnf
          rintro _ rfl
          conv => whnf
          refine ⟨(n - (i + 1)) * 10 + 5, by omega, i + 1, by omega, lt_s hall (fun z => z.elim (bI_0 k1) (bI_0 k2)), ?_, rfl, rfl⟩
          show [_, _, _, (3, Value.int (nI i + 1))] = _
          rw [nI_1]
        · exact fin _ (bI_f (fun z => z.2 i hi2 (Or.inr (bI_n k2))))
      · exact fin _ (bI_f (fun z => z.2 i hi2 (Or.inl (bI_n k1))))
    · exact absurd hq List.not_mem_nil
  · conv => whnf
    rintro _ rfl
    conv => whnf
    refine ⟨n * 10 + 5, by omega, 0, by omega, lt_0, rfl, rfl, by omega⟩
theorem rv_X3_takes : rz_Rv yX3_takes.cls ce_X3_takes := fun av w h => by
  obtain ⟨_, _, _, _, _, _, _, _, _, _, _, _, _, _, rfl, rfl, _⟩ := h
  exact ⟨_, _, _, _, _, _, rfl, rfl, rfl⟩
theorem cn_X3_takes (l : Launch) : rz_Con l yX3_takes cX3_takes 6 (some .boolean) 0 0 0 ce_X3_takes := rz_con (by decide +kernel) fo_X3 (fun _ h => absurd h List.not_mem_nil) (fun _ h => absurd h List.not_mem_nil) r_X3_takes vc_X3_takes
/-- the nearest track so far, and how far -/
def ntF (mi la le bo rg tp : Nat → Int32) (sp : Int32) (p : Nat) : Nat → Int32 × Int64
  | 0 => (-1, 0)
  | t + 1 => if mi (la t).toNatClampNeg < mi p ∧ sqF le bo rg tp (la t).toNatClampNeg p ≤ sp.toInt64 * (mi p - mi (la t).toNatClampNeg).toInt64 * (sp.toInt64 * (mi p - mi (la t).toNatClampNeg).toInt64) ∧ ((ntF mi la le bo rg tp sp p t).1 = -1 ∨ sqF le bo rg tp (la t).toNatClampNeg p < (ntF mi la le bo rg tp sp p t).2) then (nI t, sqF le bo rg tp (la t).toNatClampNeg p) else ntF mi la le bo rg tp sp p t
def ce_X3_nearestTrack : rz_K := (2, kPl, 0, true, fun av w => ∃ (fi se mi tk le bo rg tp la : Nat → Int32) (sz sp : Int32) (p m : Nat), av = [.ref 27, .int (nI p)] ∧ w = wPl fi se mi tk le bo rg tp la sz (nI m) sp ∧ p < 60 ∧ m ≤ 60 ∧ ∀ t, t < m → vp_in (la t) 60, fun av w o _ => ∀ p m, rA av 1 = nI p → p < 60 → rF w 27 10 = nI m → m ≤ 60 → rR o = (ntF (rI w 30) (rI w 36) (rI w 32) (rI w 33) (rI w 34) (rI w 35) (rF w 27 11) p m).1)
def cl_X3_nearestTrack : List (Nat × rz_K) := []
def cv_X3_nearestTrack : List (Nat × rz_K) := [(58, ce_X3_squaredDistance)]
theorem vc_X3_nearestTrack : rz_VC k_X3_nearestTrack fl_X3 cl_X3_nearestTrack cv_X3_nearestTrack s_X3_nearestTrack false 11 ce_X3_nearestTrack := by
  intro av w hlen hk hpre
  obtain ⟨fi, se, mi, tk, le, bo, rg, tp, la, sz, sp, p, m, rfl, rfl, hp, hm, hla⟩ := hpre
  have hvp : vp_in (nI p) 60 := vp_in_nI hp (by omega)
  have hcp : (nI p).toNatClampNeg = p := nI_clamp (by omega)
  refine ⟨Nat.le_of_ble_eq_true rfl, [
    (7, [0, 1, 2, 3, 5], fun z lv w' => ∃ t : Nat, t ≤ m ∧ lv = [(0, .ref 27), (1, .int (nI p)), (2, .int (ntF mi la le bo rg tp sp p t).1), (3, .long (ntF mi la le bo rg tp sp p t).2), (5, .int (nI t))] ∧ w' = wPl fi se mi tk le bo rg tp la sz (nI m) sp ∧ z = (m - t) * 2 + 1),
    (105, [0, 1, 2, 3, 5], fun z lv w' => ∃ t : Nat, t < m ∧ lv = [(0, .ref 27), (1, .int (nI p)), (2, .int (ntF mi la le bo rg tp sp p (t + 1)).1), (3, .long (ntF mi la le bo rg tp sp p (t + 1)).2), (5, .int (nI t))] ∧ w' = wPl fi se mi tk le bo rg tp la sz (nI m) sp ∧ z = (m - t) * 2)], 90, m * 2 + 2, ?_, ?_⟩
  · intro y1 hq z lv w' hj
    rcases List.mem_cons.mp hq with rfl | hq
    · obtain ⟨t, ht, rfl, rfl, rfl⟩ := hj
      conv => whnf
      refine ⟨fun k => ?_, fun k => ?_⟩
      · have e : t = m := by
          have := (nI_leI (by omega) (by omega)).mp k
          omega
        subst e
        refine ⟨⟨_, rfl⟩, fun _ => rfl, ?_⟩
        intro p' m' e1 h1 e2 h2
        have e1 : p = p' := nI_inj (by omega) (by omega) e1
        have e2 : t = m' := nI_inj (by omega) (by omega) e2
        subst e1 e2
        rfl
      · have ht2 : t < m := by
          rcases Nat.lt_or_ge t m with z | z
          · exact z
          · exact absurd (nI_le z (by omega)) k
        have hcl : (nI t).toNatClampNeg = t := nI_clamp (by omega)
        have hvb := hla t ht2
        generalize hB : (la t).toNatClampNeg = B
        have hs : ntF mi la le bo rg tp sp p (t + 1) = if mi B < mi p ∧ sqF le bo rg tp B p ≤ sp.toInt64 * (mi p - mi B).toInt64 * (sp.toInt64 * (mi p - mi B).toInt64) ∧ ((ntF mi la le bo rg tp sp p t).1 = -1 ∨ sqF le bo rg tp B p < (ntF mi la le bo rg tp sp p t).2) then (nI t, sqF le bo rg tp B p) else ntF mi la le bo rg tp sp p t := by rw [← hB]; rfl
        generalize hN : ntF mi la le bo rg tp sp p t = N at *
        conv => whnf
        refine ⟨vp_in_nI (by omega) (by omega), ?_⟩
        conv => whnf
        intro be ebe
        have ebe : be = la t := by rw [ebe]; show la (nI t).toNatClampNeg = _; rw [hcl]
        subst ebe
        conv => whnf
        refine ⟨hvb, ?_⟩
        conv => whnf
        refine ⟨hvp, ?_⟩
        conv => whnf
        refine ⟨fun k1 => ?_, fun k1 => ?_⟩
        · have k1 : mi (la t).toNatClampNeg < mi (nI p).toNatClampNeg := k1
          rw [hB, hcp] at k1
          conv => whnf
          refine ⟨⟨fi, se, mi, tk, le, bo, rg, tp, la, sz, nI m, sp, la t, nI p, rfl, rfl, hvb, hvp⟩, ?_⟩
          intro sq hsq
          have hsq : sq = sqF le bo rg tp (la t).toNatClampNeg (nI p).toNatClampNeg := hsq
          rw [hB, hcp] at hsq
          conv => whnf
          intro v_ ev_
          have ev_ := ev_.symm
          subst ev_
          conv => whnf
          refine ⟨hvp, ?_⟩
          conv => whnf
          refine ⟨hvb, ?_⟩
          conv => whnf
          intro wy ewy
          have hwy : wy = sp.toInt64 * (mi p - mi B).toInt64 := by
            rw [ewy]
            show sp.toInt64 * (mi (nI p).toNatClampNeg - mi (la t).toNatClampNeg).toInt64 = _
            rw [hB, hcp]
          conv => whnf
          refine ⟨fun k2 => ?_, fun k2 => ?_⟩
          · have k2 : wy * wy < sq := (lg_gt0 _ _).mp k2
            conv => whnf
            refine ⟨(m - t) * 2, by omega, t, ht2, ?_, rfl, rfl⟩
            rw [hs, if_neg (fun z => absurd z.2.1 (by rw [← hwy, ← hsq]; exact (i64_not_le _ _).mpr k2))]
            rfl
          · have k2 : sq ≤ wy * wy := (i64_not_lt _ _).mp (fun z => k2 ((lg_gt0 _ _).mpr z))
            conv => whnf
            refine ⟨fun k3 => ?_, fun k3 => ?_⟩
            · have e : ntF mi la le bo rg tp sp p (t + 1) = (nI t, sq) := by
                rw [hs, if_pos ⟨k1, by rw [← hwy, ← hsq]; exact k2, Or.inl k3⟩, hsq]
              conv => whnf
              rintro _ rfl
              conv => whnf
              rintro _ rfl
              conv => whnf
              refine ⟨(m - t) * 2, by omega, t, ht2, ?_, rfl, rfl⟩
              rw [e]
              rfl
            · conv => whnf
              refine ⟨fun k4 => ?_, fun k4 => ?_⟩
              · have k4 : N.2 ≤ sq := (lg_ge0 _ _).mp k4
                conv => whnf
                refine ⟨(m - t) * 2, by omega, t, ht2, ?_, rfl, rfl⟩
                rw [hs, if_neg (fun z => z.2.2.elim k3 (fun y => absurd y (by rw [← hsq]; exact (i64_not_lt _ _).mpr k4)))]
                rfl
              · have k4 : sq < N.2 := (i64_not_le _ _).mp (fun z => k4 ((lg_ge0 _ _).mpr z))
                have e : ntF mi la le bo rg tp sp p (t + 1) = (nI t, sq) := by
                  rw [hs, if_pos ⟨k1, by rw [← hwy, ← hsq]; exact k2, Or.inr (by rw [← hsq]; exact k4)⟩, hsq]
                conv => whnf
                rintro _ rfl
                conv => whnf
                rintro _ rfl
                conv => whnf
                refine ⟨(m - t) * 2, by omega, t, ht2, ?_, rfl, rfl⟩
                rw [e]
                rfl
        · have k1 : ¬ mi (la t).toNatClampNeg < mi (nI p).toNatClampNeg := k1
          rw [hB, hcp] at k1
          conv => whnf
          refine ⟨(m - t) * 2, by omega, t, ht2, ?_, rfl, rfl⟩
          rw [hs, if_neg (fun z => k1 z.1)]
          rfl
    rcases List.mem_cons.mp hq with rfl | hq
    · obtain ⟨t, ht2, rfl, rfl, rfl⟩ := hj
      conv => whnf
      rintro _ rfl
      conv => whnf
      refine ⟨(m - (t + 1)) * 2 + 1, by omega, t + 1, by omega, ?_, rfl, rfl⟩
      show [_, _, _, _, (5, Value.int (nI t + 1))] = _
      rw [nI_1]
    · exact absurd hq List.not_mem_nil
  · conv => whnf
    rintro _ rfl
    conv => whnf
    rintro _ rfl
    conv => whnf
    rintro _ rfl
    conv => whnf
    refine ⟨m * 2 + 1, by omega, 0, by omega, rfl, rfl, by omega⟩
theorem rv_X3_nearestTrack : rz_Rv yX3_nearestTrack.cls ce_X3_nearestTrack := fun av w h => by
  obtain ⟨_, _, _, _, _, _, _, _, _, _, _, _, _, rfl, rfl, _⟩ := h
  exact ⟨_, _, _, _, _, _, rfl, rfl, rfl⟩
theorem cn_X3_nearestTrack (l : Launch) : rz_Con l yX3_nearestTrack cX3_nearestTrack 11 (some .int) 2 0 0 ce_X3_nearestTrack := rz_con (by decide +kernel) fo_X3 (fun _ h => absurd h List.not_mem_nil) (by
  intro q hq
  rcases List.mem_cons.mp hq with rfl | hq
  · exact rz_callV (cn_X3_squaredDistance l) (by decide +kernel) ⟨Nat.le_of_ble_eq_true rfl, Nat.le_of_ble_eq_true rfl⟩ m_X3_squaredDistance rfl i_X3_squaredDistance v_X3_squaredDistance rv_X3_squaredDistance n_X3_58
  exact absurd hq List.not_mem_nil) r_X3_nearestTrack vc_X3_nearestTrack
theorem ntF_in (mi la le bo rg tp : Nat → Int32) (sp : Int32) (p : Nat) : ∀ m, (ntF mi la le bo rg tp sp p m).1 = -1 ∨ ∃ t, t < m ∧ (ntF mi la le bo rg tp sp p m).1 = nI t
  | 0 => Or.inl rfl
  | t + 1 => by
    unfold ntF
    split
    · exact Or.inr ⟨t, by omega, rfl⟩
    · rcases ntF_in mi la le bo rg tp sp p t with z | ⟨u, z1, z2⟩
      · exact Or.inl z
      · exact Or.inr ⟨u, by omega, z2⟩
abbrev wPS (fi se mi tk le bo rg tp la : Nat → Int32) (sz tr sp : Int32) (a b c ex ey tx lx ty ly : Nat → Int64) (co : Int32) : rz_W := [(27, ro 3 [.ref 28, .ref 29, .ref 30, .ref 31, .ref 32, .ref 33, .ref 34, .ref 35, .ref 36, .int sz, .int tr, .int sp]), (28, ri 60 fi), (29, ri 60 se), (30, ri 60 mi), (31, ri 60 tk), (32, ri 60 le), (33, ri 60 bo), (34, ri 60 rg), (35, ri 60 tp), (36, ri 60 la), (17, ro 4 [.ref 18, .ref 19, .ref 20, .ref 21, .ref 22, .ref 23, .ref 24, .ref 25, .ref 26, .int co]), (18, rl 4 a), (19, rl 4 b), (20, rl 4 c), (21, rl 4 ex), (22, rl 4 ey), (23, rl 6 tx), (24, rl 6 lx), (25, rl 6 ty), (26, rl 6 ly)]
abbrev kPS : List Nat := [27, 28, 29, 30, 31, 32, 33, 34, 35, 36, 17, 18, 19, 20, 21, 22, 23, 24, 25, 26]
/-- the track that a plot joins: one there is, or the next -/
def trF (x : Int32) (m : Nat) : Nat := if x = -1 then m else x.toNatClampNeg
def ce_X3_add : rz_K := (5, kPS, 0, false, fun av w => ∃ (fi se mi tk le bo rg tp la : Nat → Int32) (sp : Int32) (a b c ex ey tx lx ty ly : Nat → Int64) (x y u : Int32) (n m k : Nat), av = [.ref 27, .int x, .int y, .int u, .ref 17] ∧ w = wPS fi se mi tk le bo rg tp la (nI n) (nI m) sp a b c ex ey tx lx ty ly (nI k) ∧ n < 60 ∧ m ≤ n ∧ k ≤ 6 ∧ ∀ t, t < m → vp_in (la t) 60, fun av w o w' => ∀ n m k, rF w 27 9 = nI n → n < 60 → rF w 27 10 = nI m → m ≤ n → rF w 17 9 = nI k → k ≤ 6 → ∀ mi' le' bo' rg' tp' : Nat → Int32, mi' = upd (rI w 30) n (rA av 3) → le' = upd (rI w 32) n (bxF (rJ w 23) (rJ w 24) (rJ w 25) (rJ w 26) k 0) → bo' = upd (rI w 33) n (bxF (rJ w 23) (rJ w 24) (rJ w 25) (rJ w 26) k 1) → rg' = upd (rI w 34) n (bxF (rJ w 23) (rJ w 24) (rJ w 25) (rJ w 26) k 2) → tp' = upd (rI w 35) n (bxF (rJ w 23) (rJ w 24) (rJ w 25) (rJ w 26) k 3) → ∀ T, T = trF (ntF mi' (rI w 36) le' bo' rg' tp' (rF w 27 11) n m).1 m → rR o = nI T ∧ T ≤ m ∧ w' = wPS (upd (rI w 28) n (rA av 1)) (upd (rI w 29) n (rA av 2)) mi' (upd (rI w 31) n (nI T)) le' bo' rg' tp' (upd (rI w 36) T (nI n)) (nI (n + 1)) (nI (if T = m then m + 1 else m)) (rF w 27 11) (rJ w 18) (rJ w 19) (rJ w 20) (rJ w 21) (rJ w 22) (rJ w 23) (rJ w 24) (rJ w 25) (rJ w 26) (rF w 17 9))
def cl_X3_add : List (Nat × rz_K) := []
def cv_X3_add : List (Nat × rz_K) := [(49, ce_X4_boxSide), (55, ce_X3_nearestTrack)]
set_option maxHeartbeats 4000000 in
theorem vc_X3_add : rz_VC k_X3_add fl_X3 cl_X3_add cv_X3_add s_X3_add false 7 ce_X3_add := by
  intro av w hlen hk hpre
  obtain ⟨fi, se, mi, tk, le, bo, rg, tp, la, sp, a, b, c, ex, ey, tx, lx, ty, ly, x, y, u, n, m, k, rfl, rfl, hn, hmn, hk6, hla⟩ := hpre
  generalize hmi : upd mi n u = mi'
  generalize hle : upd le n (bxF tx lx ty ly k 0) = le'
  generalize hbo : upd bo n (bxF tx lx ty ly k 1) = bo'
  generalize hrg : upd rg n (bxF tx lx ty ly k 2) = rg'
  generalize htp : upd tp n (bxF tx lx ty ly k 3) = tp'
  generalize hT : trF (ntF mi' la le' bo' rg' tp' sp n m).1 m = T
  have hTm : T ≤ m := by
    rw [← hT]
    rcases ntF_in mi' la le' bo' rg' tp' sp n m with z | ⟨t, z1, z2⟩
    · rw [trF, if_pos z]; exact Nat.le_refl m
    · rw [z2, trF, if_neg (nI_ne_m1 (by omega)), nI_clamp (by omega)]; omega
  have hvn : vp_in (nI n) 60 := vp_in_nI hn (by omega)
  have hcn : (nI n).toNatClampNeg = n := nI_clamp (by omega)
  have hvT : vp_in (nI T) 60 := vp_in_nI (by omega) (by omega)
  have hcT : (nI T).toNatClampNeg = T := nI_clamp (by omega)
  have fin : rz_end ce_X3_add [.ref 27, .int x, .int y, .int u, .ref 17] (wPS fi se mi tk le bo rg tp la (nI n) (nI m) sp a b c ex ey tx lx ty ly (nI k)) (some (.int (nI T))) (wPS (upd fi n x) (upd se n y) mi' (upd tk n (nI T)) le' bo' rg' tp' (upd la T (nI n)) (nI (n + 1)) (nI (if T = m then m + 1 else m)) sp a b c ex ey tx lx ty ly (nI k)) := by
    refine ⟨⟨_, rfl⟩, fun z => (by cases z), ?_⟩
    intro n' m' k' e1 h1 e2 h2 e3 h3 mi1 le1 bo1 rg1 tp1 g1 g2 g3 g4 g5 T1 g6
    have e1 : n = n' := nI_inj (by omega) (by omega) e1
    have e2 : m = m' := nI_inj (by omega) (by omega) e2
    have e3 : k = k' := nI_inj (by omega) (by omega) e3
    subst e1 e2 e3
    have g1 : mi1 = mi' := g1.trans hmi
    have g2 : le1 = le' := g2.trans hle
    have g3 : bo1 = bo' := g3.trans hbo
    have g4 : rg1 = rg' := g4.trans hrg
    have g5 : tp1 = tp' := g5.trans htp
    subst g1 g2 g3 g4 g5
    have g6 : T1 = T := g6.trans hT
    subst g6
    exact ⟨rfl, hTm, rfl⟩
  refine ⟨Nat.le_of_ble_eq_true rfl, [
    (93, [0, 1, 2, 3, 4, 5], fun z lv w' => lv = [(0, .ref 27), (1, .int x), (2, .int y), (3, .int u), (4, .ref 17), (5, .int (nI n))] ∧ w' = wPS (upd fi n x) (upd se n y) mi' tk le' bo' rg' tp' la (nI n) (nI m) sp a b c ex ey tx lx ty ly (nI k) ∧ z = 1),
    (123, [0, 1, 2, 3, 4, 5, 6], fun z lv w' => lv = [(0, .ref 27), (1, .int x), (2, .int y), (3, .int u), (4, .ref 17), (5, .int (nI n)), (6, .int (nI T))] ∧ w' = wPS (upd fi n x) (upd se n y) mi' tk le' bo' rg' tp' la (nI n) (nI (if T = m then m + 1 else m)) sp a b c ex ey tx lx ty ly (nI k) ∧ z = 0)], 100, 2, ?_, ?_⟩
  · intro y1 hq z lv w' hj
    rcases List.mem_cons.mp hq with rfl | hq
    · obtain ⟨rfl, rfl, rfl⟩ := hj
      conv => whnf
      refine ⟨⟨_, _, mi', tk, le', bo', rg', tp', la, nI n, sp, n, m, rfl, rfl, hn, by omega, hla⟩, ?_⟩
      intro r hr
      have hr : r = (ntF mi' la le' bo' rg' tp' sp n m).1 := hr n m rfl hn rfl (by omega)
      rw [← hr] at hT
      conv => whnf
      intro v_ ev_
      have ev_ := ev_.symm
      subst ev_
      conv => whnf
      refine ⟨fun k1 => ?_, fun k1 => ?_⟩
      · have e : T = m := by rw [← hT, trF, if_pos k1]
        conv => whnf
        rintro _ rfl
        conv => whnf
        refine ⟨0, by omega, ?_, ?_, rfl⟩
        · rw [e]
          rfl
        · rw [if_pos e, ← nI_1]
          rfl
      · obtain ⟨t, z1, z2⟩ : ∃ t, t < m ∧ r = nI t := by
          rcases ntF_in mi' la le' bo' rg' tp' sp n m with z | ⟨t, z1, z2⟩
          · exact absurd (hr.trans z) k1
          · exact ⟨t, z1, hr.trans z2⟩
        have e : T = t := by rw [← hT, trF, if_neg k1, z2, nI_clamp (by omega)]
        conv => whnf
        refine ⟨0, by omega, ?_, ?_, rfl⟩
        · rw [e, ← z2]
          rfl
        · rw [if_neg (by omega)]
    rcases List.mem_cons.mp hq with rfl | hq
    · obtain ⟨rfl, rfl, rfl⟩ := hj
      conv => whnf
      refine ⟨hvn, ?_⟩
      conv => whnf
      refine ⟨hvT, ?_⟩
      conv => whnf
      have fin := fin
      rw [← nI_1] at fin
      have hw : wPS (upd fi n x) (upd se n y) mi' (upd tk (nI n).toNatClampNeg (nI T)) le' bo' rg' tp' (upd la (nI T).toNatClampNeg (nI n)) (nI n + 1) (nI (if T = m then m + 1 else m)) sp a b c ex ey tx lx ty ly (nI k) = wPS (upd fi n x) (upd se n y) mi' (upd tk n (nI T)) le' bo' rg' tp' (upd la T (nI n)) (nI n + 1) (nI (if T = m then m + 1 else m)) sp a b c ex ey tx lx ty ly (nI k) := by rw [hcn, hcT]
      rw [← hw] at fin
      exact fin
    · exact absurd hq List.not_mem_nil
  · conv => whnf
    refine ⟨fun k1 => ?_, fun k1 => ?_⟩
    · conv => whnf
      rintro _ rfl
      conv => whnf
      refine ⟨hvn, ?_⟩
      conv => whnf
      refine ⟨hvn, ?_⟩
      conv => whnf
      refine ⟨hvn, ?_⟩
      conv => whnf
      refine ⟨⟨a, b, c, ex, ey, tx, lx, ty, ly, k, 0, rfl, rfl, hk6⟩, ?_⟩
      intro r0 hr0
      obtain rfl : r0 = bxF tx lx ty ly k 0 := hr0 k rfl hk6
      conv => whnf
      refine ⟨hvn, ?_⟩
      conv => whnf
      refine ⟨⟨a, b, c, ex, ey, tx, lx, ty, ly, k, 1, rfl, rfl, hk6⟩, ?_⟩
      intro r0 hr0
      obtain rfl : r0 = bxF tx lx ty ly k 1 := hr0 k rfl hk6
      conv => whnf
      refine ⟨hvn, ?_⟩
      conv => whnf
      refine ⟨⟨a, b, c, ex, ey, tx, lx, ty, ly, k, 2, rfl, rfl, hk6⟩, ?_⟩
      intro r0 hr0
      obtain rfl : r0 = bxF tx lx ty ly k 2 := hr0 k rfl hk6
      conv => whnf
      refine ⟨hvn, ?_⟩
      conv => whnf
      refine ⟨⟨a, b, c, ex, ey, tx, lx, ty, ly, k, 3, rfl, rfl, hk6⟩, ?_⟩
      intro r0 hr0
      obtain rfl : r0 = bxF tx lx ty ly k 3 := hr0 k rfl hk6
      conv => whnf
      refine ⟨hvn, ?_⟩
      conv => whnf
      refine ⟨1, by omega, rfl, ?_, rfl⟩
      show wPS (upd fi (nI n).toNatClampNeg x) (upd se (nI n).toNatClampNeg y) (upd mi (nI n).toNatClampNeg u) tk (upd le (nI n).toNatClampNeg (bxF tx lx ty ly k 0)) (upd bo (nI n).toNatClampNeg (bxF tx lx ty ly k 1)) (upd rg (nI n).toNatClampNeg (bxF tx lx ty ly k 2)) (upd tp (nI n).toNatClampNeg (bxF tx lx ty ly k 3)) la (nI n) (nI m) sp a b c ex ey tx lx ty ly (nI k) = _
      rw [hcn, hmi, hle, hbo, hrg, htp]
    · have k1 : ¬ nI n < nI 60 := k1
      exact absurd (nI_lt hn (by omega)) k1
theorem rv_X3_add : rz_Rv yX3_add.cls ce_X3_add := fun av w h => by
  obtain ⟨_, _, _, _, _, _, _, _, _, _, _, _, _, _, _, _, _, _, _, _, _, _, _, _, _, rfl, rfl, _⟩ := h
  exact ⟨_, _, _, _, _, _, rfl, rfl, rfl⟩
theorem cn_X3_add (l : Launch) : rz_Con l yX3_add cX3_add 7 (some .int) 4 0 0 ce_X3_add := rz_con (by decide +kernel) fo_X3 (fun _ h => absurd h List.not_mem_nil) (by
  intro q hq
  rcases List.mem_cons.mp hq with rfl | hq
  · exact rz_callVN (cn_X4_boxSide l) (by decide +kernel) ⟨Nat.le_of_ble_eq_true rfl, Nat.le_of_ble_eq_true rfl⟩ m_X4_boxSide rfl i_X4_boxSide v_X4_boxSide rv_X4_boxSide n_X3_49
  rcases List.mem_cons.mp hq with rfl | hq
  · exact rz_callV (cn_X3_nearestTrack l) (by decide +kernel) ⟨Nat.le_of_ble_eq_true rfl, Nat.le_of_ble_eq_true rfl⟩ m_X3_nearestTrack rfl i_X3_nearestTrack v_X3_nearestTrack rv_X3_nearestTrack n_X3_55
  exact absurd hq List.not_mem_nil) r_X3_add vc_X3_add
def ce_X3_partOf : rz_K := (3, kPl, 0, true, fun av w => ∃ (fi se mi tk le bo rg tp la : Nat → Int32) (tr sp p q : Int32) (n : Nat), av = [.ref 27, .int p, .int q] ∧ w = wPl fi se mi tk le bo rg tp la (nI n) tr sp ∧ n ≤ 60, fun av w o _ => ∀ n, rF w 27 9 = nI n → n ≤ 60 → rR o = if okS (rA av 1) n then (if rA av 2 = 0 then rI w 31 (rA av 1).toNatClampNeg else if rA av 2 = 1 then rI w 28 (rA av 1).toNatClampNeg else if rA av 2 = 2 then rI w 29 (rA av 1).toNatClampNeg else if rA av 2 = 3 then rI w 30 (rA av 1).toNatClampNeg else -1) else -1)
def cl_X3_partOf : List (Nat × rz_K) := [(66, ce_X6_isWithin)]
def cv_X3_partOf : List (Nat × rz_K) := []
theorem vc_X3_partOf : rz_VC k_X3_partOf fl_X3 cl_X3_partOf cv_X3_partOf s_X3_partOf false 3 ce_X3_partOf := by
  intro av w hlen hk hpre
  obtain ⟨fi, se, mi, tk, le, bo, rg, tp, la, tr, sp, p, q, n, rfl, rfl, hn⟩ := hpre
  refine ⟨Nat.le_of_ble_eq_true rfl, [], 60, 0, fun q h => absurd h List.not_mem_nil, ?_⟩
  have fin : ∀ v : Int32, (v = if okS p n then (if q = 0 then tk p.toNatClampNeg else if q = 1 then fi p.toNatClampNeg else if q = 2 then se p.toNatClampNeg else if q = 3 then mi p.toNatClampNeg else -1) else -1) → rz_end ce_X3_partOf [.ref 27, .int p, .int q] (wPl fi se mi tk le bo rg tp la (nI n) tr sp) (some (.int v)) (wPl fi se mi tk le bo rg tp la (nI n) tr sp) := by
    intro v hv
    refine ⟨⟨_, rfl⟩, fun _ => rfl, ?_⟩
    intro m e hm
    have e : n = m := nI_inj (by omega) (by omega) e
    subst e
    exact hv
  conv => whnf
  refine ⟨⟨_, _, _, rfl, rfl, trivial⟩, ?_⟩
  intro r hr
  obtain rfl : r = bI (okS p n) := hr
  conv => whnf
  refine ⟨fun h => ?_, fun h => ?_⟩
  · exact fin _ (if_neg (bI_0 h)).symm
  · have hO := bI_n h
    have hv := okS_vp hO hn (by omega)
    conv => whnf
    refine ⟨fun h0 => ?_, fun h0 => ?_⟩
    · conv => whnf
      refine ⟨hv, ?_⟩
      conv => whnf
      exact fin _ (by rw [if_pos hO, if_pos h0])
    · conv => whnf
      refine ⟨fun h1 => ?_, fun h1 => ?_⟩
      · conv => whnf
        refine ⟨hv, ?_⟩
        conv => whnf
        exact fin _ (by rw [if_pos hO, if_neg h0, if_pos h1])
      · conv => whnf
        refine ⟨fun h2 => ?_, fun h2 => ?_⟩
        · conv => whnf
          refine ⟨hv, ?_⟩
          conv => whnf
          exact fin _ (by rw [if_pos hO, if_neg h0, if_neg h1, if_pos h2])
        · conv => whnf
          refine ⟨fun h3 => ?_, fun h3 => ?_⟩
          · conv => whnf
            refine ⟨hv, ?_⟩
            conv => whnf
            exact fin _ (by rw [if_pos hO, if_neg h0, if_neg h1, if_neg h2, if_pos h3])
          · exact fin _ (by rw [if_pos hO, if_neg h0, if_neg h1, if_neg h2, if_neg h3])
theorem rv_X3_partOf : rz_Rv yX3_partOf.cls ce_X3_partOf := fun av w h => by
  obtain ⟨_, _, _, _, _, _, _, _, _, _, _, _, _, _, rfl, rfl, _⟩ := h
  exact ⟨_, _, _, _, _, _, rfl, rfl, rfl⟩
theorem cn_X3_partOf (l : Launch) : rz_Con l yX3_partOf cX3_partOf 3 (some .int) 1 0 0 ce_X3_partOf := rz_con (by decide +kernel) fo_X3 (by
  intro q hq
  rcases List.mem_cons.mp hq with rfl | hq
  · exact rz_callSN (cn_X6_isWithin l) (by decide +kernel) ⟨Nat.le_of_ble_eq_true rfl, Nat.le_of_ble_eq_true rfl⟩ m_X6_isWithin t_X6_isWithin n_X3_66
  exact absurd hq List.not_mem_nil) (fun _ h => absurd h List.not_mem_nil) r_X3_partOf vc_X3_partOf
end
section
/-! CoastWatch: sight, meet, plot, corners, plotted, speed, track. -/
def pA (ay b2 : Nat → Int32) (a : Nat → Int64) (q s : Nat) : Nat → Int64 := up2 a q (-(ay s)).toInt64 (-(-(b2 s))).toInt64
def pB (ax bx : Nat → Int32) (b : Nat → Int64) (q s : Nat) : Nat → Int64 := up2 b q (ax s).toInt64 (-(bx s)).toInt64
def pC (fx fy ax ay bx b2 : Nat → Int32) (c : Nat → Int64) (q s : Nat) : Nat → Int64 := up2 c q (-(ay s) * fx s + ax s * fy s).toInt64 (-(-(b2 s)) * fx s + -(bx s) * fy s).toInt64
def pX (ax bx : Nat → Int32) (e : Nat → Int64) (q s : Nat) : Nat → Int64 := up2 e q (ax s).toInt64 (bx s).toInt64
def kdF (k : Int32) (a b ex ey : Nat → Int64) : Int32 := if k = 0 then 0 else if enA a b ex ey then 2 else 1
/-- what meet does: r the answer, then the shape -/
def mtR (fx fy mi ax ay bx b2 : Nat → Int32) (n : Nat) (a b c ex ey tx lx ty ly : Nat → Int64) (co x y r : Int32) (a' b' c' ex' ey' tx' lx' ty' ly' : Nat → Int64) (k : Int32) : Prop :=
  if okS x n ∧ okS y n ∧ cmP fx fy mi x.toNatClampNeg y.toNatClampNeg then
    a' = pA ay b2 (pA ay b2 a 0 x.toNatClampNeg) 2 y.toNatClampNeg ∧ b' = pB ax bx (pB ax bx b 0 x.toNatClampNeg) 2 y.toNatClampNeg ∧ c' = pC fx fy ax ay bx b2 (pC fx fy ax ay bx b2 c 0 x.toNatClampNeg) 2 y.toNatClampNeg ∧ ex' = pX ax bx (pX ax bx ex 0 x.toNatClampNeg) 2 y.toNatClampNeg ∧ ey' = pX ay b2 (pX ay b2 ey 0 x.toNatClampNeg) 2 y.toNatClampNeg ∧ ∃ j, k = nI j ∧ fcS a' b' c' tx lx ty ly 6 tx' lx' ty' ly' j ∧ r = kdF k a' b' ex' ey'
  else r = -1 ∧ a' = a ∧ b' = b ∧ c' = c ∧ ex' = ex ∧ ey' = ey ∧ tx' = tx ∧ lx' = lx ∧ ty' = ty ∧ ly' = ly ∧ k = co
theorem mtR_1 {fx fy mi ax ay bx b2 : Nat → Int32} {n : Nat} {a b c ex ey tx lx ty ly : Nat → Int64} {co x y r : Int32} {a' b' c' ex' ey' tx' lx' ty' ly' : Nat → Int64} {k : Int32} (h : mtR fx fy mi ax ay bx b2 n a b c ex ey tx lx ty ly co x y r a' b' c' ex' ey' tx' lx' ty' ly' k) (hr : r = 1) : okS x n ∧ okS y n ∧ ∃ j, j ≤ 6 ∧ k = nI j := by
  by_cases z : okS x n ∧ okS y n ∧ cmP fx fy mi x.toNatClampNeg y.toNatClampNeg
  · obtain ⟨-, -, -, -, -, j, h1, h2, -⟩ := if_y h z
    exact ⟨z.1, z.2.1, j, fcS_n h2, h1⟩
  · have := (if_n h z).1
    rw [hr] at this
    exact absurd this (by decide)
def ce_X6_meet : rz_K := (3, 0 :: kSS, 0, false, fun av w => ∃ (fx fy mi ax ay bx b2 : Nat → Int32) (a b c ex ey tx lx ty ly : Nat → Int64) (nw co x y : Int32) (n : Nat), av = [.ref 0, .int x, .int y] ∧ w = (0, oCW nw) :: wSS fx fy mi ax ay bx b2 (nI n) a b c ex ey tx lx ty ly co ∧ n ≤ 100, fun av w o w' => ∀ n, rF w 9 7 = nI n → n ≤ 100 → ∃ (a' b' c' ex' ey' tx' lx' ty' ly' : Nat → Int64) (k : Int32), mtR (rI w 10) (rI w 11) (rI w 12) (rI w 13) (rI w 14) (rI w 15) (rI w 16) n (rJ w 18) (rJ w 19) (rJ w 20) (rJ w 21) (rJ w 22) (rJ w 23) (rJ w 24) (rJ w 25) (rJ w 26) (rF w 17 9) (rA av 1) (rA av 2) (rR o) a' b' c' ex' ey' tx' lx' ty' ly' k ∧ w' = (0, oCW (rF w 0 6)) :: wSS (rI w 10) (rI w 11) (rI w 12) (rI w 13) (rI w 14) (rI w 15) (rI w 16) (rF w 9 7) a' b' c' ex' ey' tx' lx' ty' ly' k)
def cl_X6_meet : List (Nat × rz_K) := []
def cv_X6_meet : List (Nat × rz_K) := [(190, ce_X5_has), (193, ce_X5_canMeet), (196, ce_X5_putHalfPlanes), (200, ce_X4_findCorners), (203, ce_X4_kind)]
set_option maxHeartbeats 4000000 in
theorem vc_X6_meet : rz_VC k_X6_meet fl_X6 cl_X6_meet cv_X6_meet s_X6_meet false 3 ce_X6_meet := by
  intro av w hlen hk hpre
  obtain ⟨fx, fy, mi, ax, ay, bx, b2, a, b, c, ex, ey, tx, lx, ty, ly, nw, co, x, y, n, rfl, rfl, hn⟩ := hpre
  have no : ¬ (okS x n ∧ okS y n ∧ cmP fx fy mi x.toNatClampNeg y.toNatClampNeg) → rz_end ce_X6_meet [.ref 0, .int x, .int y] ((0, oCW nw) :: wSS fx fy mi ax ay bx b2 (nI n) a b c ex ey tx lx ty ly co) (some (.int (-1))) ((0, oCW nw) :: wSS fx fy mi ax ay bx b2 (nI n) a b c ex ey tx lx ty ly co) := by
    intro z1
    refine ⟨⟨_, rfl⟩, fun z => (by cases z), ?_⟩
    intro n' e1 h1
    have e1 : n = n' := nI_inj (by omega) (by omega) e1
    subst e1
    exact ⟨a, b, c, ex, ey, tx, lx, ty, ly, co, if_no z1 ⟨rfl, rfl, rfl, rfl, rfl, rfl, rfl, rfl, rfl, rfl, rfl⟩, rfl⟩
  generalize hA : pA ay b2 a 0 x.toNatClampNeg = A1
  generalize hB : pB ax bx b 0 x.toNatClampNeg = B1
  generalize hC : pC fx fy ax ay bx b2 c 0 x.toNatClampNeg = C1
  generalize hX : pX ax bx ex 0 x.toNatClampNeg = X1
  generalize hY : pX ay b2 ey 0 x.toNatClampNeg = Y1
  generalize hA2 : pA ay b2 A1 2 y.toNatClampNeg = A2
  generalize hB2 : pB ax bx B1 2 y.toNatClampNeg = B2
  generalize hC2 : pC fx fy ax ay bx b2 C1 2 y.toNatClampNeg = C2
  generalize hX2 : pX ax bx X1 2 y.toNatClampNeg = X2
  generalize hY2 : pX ay b2 Y1 2 y.toNatClampNeg = Y2
  refine ⟨Nat.le_of_ble_eq_true rfl, [
    (49, [0, 1, 2], fun z lv w' => (okS x n ∧ okS y n ∧ cmP fx fy mi x.toNatClampNeg y.toNatClampNeg) ∧ lv = [(0, .ref 0), (1, .int x), (2, .int y)] ∧ w' = (0, oCW nw) :: wSS fx fy mi ax ay bx b2 (nI n) A1 B1 C1 X1 Y1 tx lx ty ly co ∧ z = 2),
    (62, [0, 1, 2], fun z lv w' => (okS x n ∧ okS y n ∧ cmP fx fy mi x.toNatClampNeg y.toNatClampNeg) ∧ lv = [(0, .ref 0), (1, .int x), (2, .int y)] ∧ w' = (0, oCW nw) :: wSS fx fy mi ax ay bx b2 (nI n) A2 B2 C2 X2 Y2 tx lx ty ly co ∧ z = 1),
    (69, [0, 1, 2], fun z lv w' => ∃ (t l u m : Nat → Int64) (j : Nat), (okS x n ∧ okS y n ∧ cmP fx fy mi x.toNatClampNeg y.toNatClampNeg) ∧ fcS A2 B2 C2 tx lx ty ly 6 t l u m j ∧ lv = [(0, .ref 0), (1, .int x), (2, .int y)] ∧ w' = (0, oCW nw) :: wSS fx fy mi ax ay bx b2 (nI n) A2 B2 C2 X2 Y2 t l u m (nI j) ∧ z = 0)], 100, 3, ?_, ?_⟩
  · intro y1 hq1 z lv w' hj
    rcases List.mem_cons.mp hq1 with rfl | hq1
    · obtain ⟨ok, rfl, rfl, rfl⟩ := hj
      conv => whnf
      refine ⟨⟨fx, fy, mi, ax, ay, bx, b2, nI n, A1, B1, C1, X1, Y1, tx, lx, ty, ly, co, y, 2, rfl, rfl, okS_vp ok.2.1 hn (by omega), by omega⟩, ?_⟩
      intro wc hwc
      have hwc : wc = wSS fx fy mi ax ay bx b2 (nI n) (pA ay b2 A1 2 y.toNatClampNeg) (pB ax bx B1 2 y.toNatClampNeg) (pC fx fy ax ay bx b2 C1 2 y.toNatClampNeg) (pX ax bx X1 2 y.toNatClampNeg) (pX ay b2 Y1 2 y.toNatClampNeg) tx lx ty ly co := hwc 2 rfl (by omega)
      rw [hA2, hB2, hC2, hX2, hY2] at hwc
      subst hwc
      conv => whnf
      refine ⟨1, by omega, ok, rfl, rfl, rfl⟩
    rcases List.mem_cons.mp hq1 with rfl | hq1
    · obtain ⟨ok, rfl, rfl, rfl⟩ := hj
      conv => whnf
      refine ⟨⟨A2, B2, C2, X2, Y2, tx, lx, ty, ly, co, rfl, rfl, trivial⟩, ?_⟩
      intro wc hwc
      obtain ⟨t, l, u, m, j, h1, rfl⟩ := hwc
      have h1 : fcS A2 B2 C2 tx lx ty ly 6 t l u m j := h1
      conv => whnf
      refine ⟨0, by omega, t, l, u, m, j, ok, h1, rfl, rfl, rfl⟩
    rcases List.mem_cons.mp hq1 with rfl | hq1
    · obtain ⟨t, l, u, m, j, ok, h1, rfl, rfl, rfl⟩ := hj
      conv => whnf
      refine ⟨⟨A2, B2, C2, X2, Y2, t, l, u, m, nI j, rfl, rfl, trivial⟩, ?_⟩
      intro r hr
      obtain rfl : r = kdF (nI j) A2 B2 X2 Y2 := hr
      conv => whnf
      refine ⟨⟨_, rfl⟩, fun z => (by cases z), ?_⟩
      intro n' e1 g1
      have e1 : n = n' := nI_inj (by omega) (by omega) e1
      subst e1
      subst hA2 hB2 hC2 hX2 hY2 hA hB hC hX hY
      exact ⟨_, _, _, _, _, t, l, u, m, nI j, if_yes ok ⟨rfl, rfl, rfl, rfl, rfl, j, rfl, h1, rfl⟩, rfl⟩
    · exact absurd hq1 List.not_mem_nil
  · conv => whnf
    refine ⟨⟨fx, fy, mi, ax, ay, bx, b2, nI n, x, rfl, rfl, trivial⟩, ?_⟩
    intro r hr
    obtain rfl : r = bI (okS x n) := hr
    conv => whnf
    refine ⟨fun h1 => ?_, fun h1 => ?_⟩
    · exact no (fun z => bI_0 h1 z.1)
    · conv => whnf
      refine ⟨⟨fx, fy, mi, ax, ay, bx, b2, nI n, y, rfl, rfl, trivial⟩, ?_⟩
      intro r hr
      obtain rfl : r = bI (okS y n) := hr
      conv => whnf
      refine ⟨fun h2 => ?_, fun h2 => ?_⟩
      · exact no (fun z => bI_0 h2 z.2.1)
      · have hv1 := okS_vp (bI_n h1) hn (by omega)
        have hv2 := okS_vp (bI_n h2) hn (by omega)
        conv => whnf
        refine ⟨⟨fx, fy, mi, ax, ay, bx, b2, nI n, x, y, rfl, rfl, hv1, hv2⟩, ?_⟩
        intro r hr
        obtain rfl : r = bI (cmP fx fy mi x.toNatClampNeg y.toNatClampNeg) := hr
        conv => whnf
        refine ⟨fun h3 => ?_, fun h3 => ?_⟩
        · exact no (fun z => bI_0 h3 z.2.2)
        · conv => whnf
          refine ⟨⟨fx, fy, mi, ax, ay, bx, b2, nI n, a, b, c, ex, ey, tx, lx, ty, ly, co, x, 0, rfl, rfl, hv1, by omega⟩, ?_⟩
          intro wc hwc
          have hwc : wc = wSS fx fy mi ax ay bx b2 (nI n) (pA ay b2 a 0 x.toNatClampNeg) (pB ax bx b 0 x.toNatClampNeg) (pC fx fy ax ay bx b2 c 0 x.toNatClampNeg) (pX ax bx ex 0 x.toNatClampNeg) (pX ay b2 ey 0 x.toNatClampNeg) tx lx ty ly co := hwc 0 rfl (by omega)
          rw [hA, hB, hC, hX, hY] at hwc
          subst hwc
          conv => whnf
          refine ⟨2, by omega, ⟨bI_n h1, bI_n h2, bI_n h3⟩, rfl, rfl, rfl⟩
theorem rv_X6_meet : rz_Rv yX6_meet.cls ce_X6_meet := fun av w h => by
  obtain ⟨_, _, _, _, _, _, _, _, _, _, _, _, _, _, _, _, _, _, _, _, _, rfl, rfl, _⟩ := h
  exact ⟨_, _, _, _, _, _, rfl, rfl, rfl⟩
theorem cn_X6_meet (l : Launch) : rz_Con l yX6_meet cX6_meet 3 (some .int) 5 0 0 ce_X6_meet := rz_con (by decide +kernel) fo_X6 (fun _ h => absurd h List.not_mem_nil) (by
  intro q hq
  rcases List.mem_cons.mp hq with rfl | hq
  · exact rz_callVN (cn_X5_has l) (by decide +kernel) ⟨Nat.le_of_ble_eq_true rfl, Nat.le_of_ble_eq_true rfl⟩ m_X5_has rfl i_X5_has v_X5_has rv_X5_has n_X6_190
  rcases List.mem_cons.mp hq with rfl | hq
  · exact rz_callVN (cn_X5_canMeet l) (by decide +kernel) ⟨Nat.le_of_ble_eq_true rfl, Nat.le_of_ble_eq_true rfl⟩ m_X5_canMeet rfl i_X5_canMeet v_X5_canMeet rv_X5_canMeet n_X6_193
  rcases List.mem_cons.mp hq with rfl | hq
  · exact rz_callVN (cn_X5_putHalfPlanes l) (by decide +kernel) ⟨Nat.le_of_ble_eq_true rfl, Nat.le_of_ble_eq_true rfl⟩ m_X5_putHalfPlanes rfl i_X5_putHalfPlanes v_X5_putHalfPlanes rv_X5_putHalfPlanes n_X6_196
  rcases List.mem_cons.mp hq with rfl | hq
  · exact rz_callVN (cn_X4_findCorners l) (by decide +kernel) ⟨Nat.le_of_ble_eq_true rfl, Nat.le_of_ble_eq_true rfl⟩ m_X4_findCorners rfl i_X4_findCorners v_X4_findCorners rv_X4_findCorners n_X6_200
  rcases List.mem_cons.mp hq with rfl | hq
  · exact rz_callVN (cn_X4_kind l) (by decide +kernel) ⟨Nat.le_of_ble_eq_true rfl, Nat.le_of_ble_eq_true rfl⟩ m_X4_kind rfl i_X4_kind v_X4_kind rv_X4_kind n_X6_203
  exact absurd hq List.not_mem_nil) r_X6_meet vc_X6_meet
theorem rz_set_pre {c : rz_C} {k : Nat} : ∀ (p w : rz_W), k ∉ p.map Prod.fst → rz_set (p ++ w) k c = p ++ rz_set w k c
  | [], _, _ => rfl
  | (i, x) :: p, w, h => by
    have h1 : Nat.beq i k = false := by
      cases e : Nat.beq i k with
      | false => rfl
      | true => exact absurd (List.mem_cons.mpr (Or.inl (Nat.eq_of_beq_eq_true e).symm)) h
    show rz_set ((i, x) :: (p ++ w)) k c = (i, x) :: (p ++ rz_set w k c)
    rw [← rz_set_pre p w (fun z => h (List.mem_cons_of_mem _ z))]
    show (match Nat.beq i k with | true => _ | false => _) = _
    rw [h1]
theorem rz_back_at (q : rz_W) : ∀ (w' p w : rz_W), w'.map Prod.fst = w.map Prod.fst → ((p ++ w).map Prod.fst).Nodup → rz_back (p ++ (w ++ q)) w' = p ++ (w' ++ q)
  | [], p, w, h, _ => by
    have : w = [] := List.map_eq_nil_iff.mp h.symm
    rw [this]; rfl
  | (k, c) :: r, p, w, h, hd => by
    match w, h with
    | (k2, c2) :: t, h =>
      have e1 : k = k2 := (List.cons.inj h).1
      have e2 : r.map Prod.fst = t.map Prod.fst := (List.cons.inj h).2
      subst e1
      have hk : k ∉ p.map Prod.fst := by
        intro z
        rw [List.map_append, List.nodup_append] at hd
        exact hd.2.2 k z k (List.mem_cons_self) rfl
      have h0 : rz_set (p ++ ((k, c2) :: t ++ q)) k c = (p ++ [(k, c)]) ++ (t ++ q) := by
        rw [rz_set_pre p _ hk, List.append_assoc]
        congr 1
        show (match Nat.beq k k with | true => (k, c) :: (t ++ q) | false => _) = (k, c) :: (t ++ q)
        rw [Nat.beq_refl]
      show rz_back (rz_set (p ++ ((k, c2) :: t ++ q)) k c) r = _
      rw [h0, rz_back_at q r (p ++ [(k, c)]) t e2 (by rw [List.append_assoc]; simpa using hd), List.append_assoc]
      rfl
/-- a callee's cells, when they are the first ones -/
theorem rz_back_pre {w w' q : rz_W} (h : w'.map Prod.fst = w.map Prod.fst) (hd : (w.map Prod.fst).Nodup) : rz_back (w ++ q) w' = w' ++ q := rz_back_at q w' [] w h hd
def ce_X6_plot : rz_K := (3, 0 :: kSS, 0, false, ce_X6_meet.2.2.2.2.1, ce_X6_meet.2.2.2.2.2)
def cl_X6_plot : List (Nat × rz_K) := []
def cv_X6_plot : List (Nat × rz_K) := [(109, ce_X6_meet)]
theorem vc_X6_plot : rz_VC k_X6_plot fl_X6 cl_X6_plot cv_X6_plot s_X6_plot false 3 ce_X6_plot := by
  intro av w hlen hk hpre
  obtain ⟨fx, fy, mi, ax, ay, bx, b2, a, b, c, ex, ey, tx, lx, ty, ly, nw, co, x, y, n, rfl, rfl, hn⟩ := hpre
  refine ⟨Nat.le_of_ble_eq_true rfl, [], 60, 0, fun q h => absurd h List.not_mem_nil, ?_⟩
  conv => whnf
  refine ⟨⟨fx, fy, mi, ax, ay, bx, b2, a, b, c, ex, ey, tx, lx, ty, ly, nw, co, x, y, n, rfl, rfl, hn⟩, ?_⟩
  intro r wc hwc
  obtain ⟨a', b', c', ex', ey', tx', lx', ty', ly', k, h1, hw⟩ := hwc n rfl hn
  have hw : wc = (0, oCW nw) :: wSS fx fy mi ax ay bx b2 (nI n) a' b' c' ex' ey' tx' lx' ty' ly' k := hw
  have h1 : mtR fx fy mi ax ay bx b2 n a b c ex ey tx lx ty ly co x y r a' b' c' ex' ey' tx' lx' ty' ly' k := h1
  subst hw
  have e : rz_back ((0, oCW nw) :: wSS fx fy mi ax ay bx b2 (nI n) a b c ex ey tx lx ty ly co) ((0, oCW nw) :: wSS fx fy mi ax ay bx b2 (nI n) a' b' c' ex' ey' tx' lx' ty' ly' k) = (0, oCW nw) :: wSS fx fy mi ax ay bx b2 (nI n) a' b' c' ex' ey' tx' lx' ty' ly' k := rz_back_pre (w := (0, oCW nw) :: wSS fx fy mi ax ay bx b2 (nI n) a b c ex ey tx lx ty ly co) (q := []) rfl (show (0 :: kSS).Nodup by decide +kernel)
  rw [e]
  conv => whnf
  refine ⟨⟨_, rfl⟩, fun z => (by cases z), ?_⟩
  intro n' e1 g1
  have e1 : n = n' := nI_inj (by omega) (by omega) e1
  subst e1
  exact ⟨a', b', c', ex', ey', tx', lx', ty', ly', k, h1, rfl⟩
theorem rv_X6_plot : rz_Rv yX6_plot.cls ce_X6_plot := fun av w h => by
  obtain ⟨_, _, _, _, _, _, _, _, _, _, _, _, _, _, _, _, _, _, _, _, _, rfl, rfl, _⟩ := h
  exact ⟨_, _, _, _, _, _, rfl, rfl, rfl⟩
theorem cn_X6_plot (l : Launch) : rz_Con l yX6_plot cX6_plot 3 (some .int) 6 0 0 ce_X6_plot := rz_con (by decide +kernel) fo_X6 (fun _ h => absurd h List.not_mem_nil) (by
  intro q hq
  rcases List.mem_cons.mp hq with rfl | hq
  · exact rz_callV (cn_X6_meet l) (by decide +kernel) ⟨Nat.le_of_ble_eq_true rfl, Nat.le_of_ble_eq_true rfl⟩ m_X6_meet rfl i_X6_meet v_X6_meet rv_X6_meet n_X6_109
  exact absurd hq List.not_mem_nil) r_X6_plot vc_X6_plot
def ce_X6_corners : rz_K := (3, 0 :: kSS, 0, false, ce_X6_meet.2.2.2.2.1, fun av w o w' => ∀ n, rF w 9 7 = nI n → n ≤ 100 → ∃ (a' b' c' ex' ey' tx' lx' ty' ly' : Nat → Int64) (k r : Int32), mtR (rI w 10) (rI w 11) (rI w 12) (rI w 13) (rI w 14) (rI w 15) (rI w 16) n (rJ w 18) (rJ w 19) (rJ w 20) (rJ w 21) (rJ w 22) (rJ w 23) (rJ w 24) (rJ w 25) (rJ w 26) (rF w 17 9) (rA av 1) (rA av 2) r a' b' c' ex' ey' tx' lx' ty' ly' k ∧ rR o = (if r = 1 then k else -1) ∧ w' = (0, oCW (rF w 0 6)) :: wSS (rI w 10) (rI w 11) (rI w 12) (rI w 13) (rI w 14) (rI w 15) (rI w 16) (rF w 9 7) a' b' c' ex' ey' tx' lx' ty' ly' k)
def cl_X6_corners : List (Nat × rz_K) := []
def cv_X6_corners : List (Nat × rz_K) := [(109, ce_X6_meet)]
theorem vc_X6_corners : rz_VC k_X6_corners fl_X6 cl_X6_corners cv_X6_corners s_X6_corners false 3 ce_X6_corners := by
  intro av w hlen hk hpre
  obtain ⟨fx, fy, mi, ax, ay, bx, b2, a, b, c, ex, ey, tx, lx, ty, ly, nw, co, x, y, n, rfl, rfl, hn⟩ := hpre
  refine ⟨Nat.le_of_ble_eq_true rfl, [], 60, 0, fun q h => absurd h List.not_mem_nil, ?_⟩
  conv => whnf
  refine ⟨⟨fx, fy, mi, ax, ay, bx, b2, a, b, c, ex, ey, tx, lx, ty, ly, nw, co, x, y, n, rfl, rfl, hn⟩, ?_⟩
  intro r wc hwc
  obtain ⟨a', b', c', ex', ey', tx', lx', ty', ly', k, h1, hw⟩ := hwc n rfl hn
  have hw : wc = (0, oCW nw) :: wSS fx fy mi ax ay bx b2 (nI n) a' b' c' ex' ey' tx' lx' ty' ly' k := hw
  have h1 : mtR fx fy mi ax ay bx b2 n a b c ex ey tx lx ty ly co x y r a' b' c' ex' ey' tx' lx' ty' ly' k := h1
  subst hw
  have e : rz_back ((0, oCW nw) :: wSS fx fy mi ax ay bx b2 (nI n) a b c ex ey tx lx ty ly co) ((0, oCW nw) :: wSS fx fy mi ax ay bx b2 (nI n) a' b' c' ex' ey' tx' lx' ty' ly' k) = (0, oCW nw) :: wSS fx fy mi ax ay bx b2 (nI n) a' b' c' ex' ey' tx' lx' ty' ly' k := rz_back_pre (w := (0, oCW nw) :: wSS fx fy mi ax ay bx b2 (nI n) a b c ex ey tx lx ty ly co) (q := []) rfl (show (0 :: kSS).Nodup by decide +kernel)
  rw [e]
  conv => whnf
  refine ⟨fun h2 => ?_, fun h2 => ?_⟩
  · refine ⟨⟨_, rfl⟩, fun z => (by cases z), ?_⟩
    intro n' e1 g1
    have e1 : n = n' := nI_inj (by omega) (by omega) e1
    subst e1
    exact ⟨a', b', c', ex', ey', tx', lx', ty', ly', k, r, h1, (if_pos h2).symm, rfl⟩
  · refine ⟨⟨_, rfl⟩, fun z => (by cases z), ?_⟩
    intro n' e1 g1
    have e1 : n = n' := nI_inj (by omega) (by omega) e1
    subst e1
    exact ⟨a', b', c', ex', ey', tx', lx', ty', ly', k, r, h1, (if_neg h2).symm, rfl⟩
theorem rv_X6_corners : rz_Rv yX6_corners.cls ce_X6_corners := fun av w h => by
  obtain ⟨_, _, _, _, _, _, _, _, _, _, _, _, _, _, _, _, _, _, _, _, _, rfl, rfl, _⟩ := h
  exact ⟨_, _, _, _, _, _, rfl, rfl, rfl⟩
theorem cn_X6_corners (l : Launch) : rz_Con l yX6_corners cX6_corners 3 (some .int) 6 0 0 ce_X6_corners := rz_con (by decide +kernel) fo_X6 (fun _ h => absurd h List.not_mem_nil) (by
  intro q hq
  rcases List.mem_cons.mp hq with rfl | hq
  · exact rz_callV (cn_X6_meet l) (by decide +kernel) ⟨Nat.le_of_ble_eq_true rfl, Nat.le_of_ble_eq_true rfl⟩ m_X6_meet rfl i_X6_meet v_X6_meet rv_X6_meet n_X6_109
  exact absurd hq List.not_mem_nil) r_X6_corners vc_X6_corners
abbrev wLS (px py ph rx ry vi sp : Nat → Int32) (po re : Int32) (fx fy mi ax ay bx b2 : Nat → Int32) (n : Int32) : rz_W := [(1, ro 2 [.ref 2, .ref 3, .ref 4, .ref 5, .ref 6, .ref 7, .ref 8, .int po, .int re]), (2, ri 6 px), (3, ri 6 py), (4, ri 6 ph), (5, ri 8 rx), (6, ri 8 ry), (7, ri 334 vi), (8, ri 6 sp), (9, ro 5 [.ref 10, .ref 11, .ref 12, .ref 13, .ref 14, .ref 15, .ref 16, .int n]), (10, ri 100 fx), (11, ri 100 fy), (12, ri 100 mi), (13, ri 100 ax), (14, ri 100 ay), (15, ri 100 bx), (16, ri 100 b2)]
abbrev kLS : List Nat := [1, 2, 3, 4, 5, 6, 7, 8, 9, 10, 11, 12, 13, 14, 15, 16]
abbrev okE (x y : Int32) : Prop := -50 ≤ x ∧ x ≤ 50 ∧ -50 ≤ y ∧ y ≤ 50
abbrev okG (p : Int32) (g : Nat) (a b c d : Int32) : Prop := okS p g ∧ okE a b ∧ okE c d ∧ 0 < a * d - b * c
def ce_X6_sight : rz_K := (6, 0 :: kLS, 0, false, fun av w => ∃ (px py ph rx ry vi sp fx fy mi ax ay bx b2 : Nat → Int32) (nw re p a b c d : Int32) (g n : Nat), av = [.ref 0, .int p, .int a, .int b, .int c, .int d] ∧ w = (0, oCW nw) :: wLS px py ph rx ry vi sp (nI g) re fx fy mi ax ay bx b2 (nI n) ∧ g ≤ 6 ∧ n ≤ 100, fun av w o w' => ∀ g n, rF w 1 7 = nI g → g ≤ 6 → rF w 9 7 = nI n → n ≤ 100 → if okG (rA av 1) g (rA av 2) (rA av 3) (rA av 4) (rA av 5) ∧ n < 100 then rR o = nI n ∧ w' = (0, oCW (rF w 0 6)) :: wLS (rI w 2) (rI w 3) (rI w 4) (rI w 5) (rI w 6) (rI w 7) (rI w 8) (rF w 1 7) (rF w 1 8) (upd (rI w 10) n (rI w 2 (rA av 1).toNatClampNeg)) (upd (rI w 11) n (rI w 3 (rA av 1).toNatClampNeg)) (upd (rI w 12) n (rF w 0 6)) (upd (rI w 13) n (rA av 2)) (upd (rI w 14) n (rA av 3)) (upd (rI w 15) n (rA av 4)) (upd (rI w 16) n (rA av 5)) (nI (n + 1)) else rR o = -1 ∧ w' = w)
def cl_X6_sight : List (Nat × rz_K) := [(93, ce_X6_isEdge)]
def cv_X6_sight : List (Nat × rz_K) := [(79, ce_X2_hasPost), (102, ce_X5_add), (105, ce_X5_setEdges)]
set_option maxHeartbeats 4000000 in
theorem vc_X6_sight : rz_VC k_X6_sight fl_X6 cl_X6_sight cv_X6_sight s_X6_sight false 7 ce_X6_sight := by
  intro av w hlen hk hpre
  obtain ⟨px, py, ph, rx, ry, vi, sp, fx, fy, mi, ax, ay, bx, b2, nw, re, p, a, b, c, d, g, n, rfl, rfl, hg, hn⟩ := hpre
  have no : ¬ (okG p g a b c d ∧ n < 100) → rz_end ce_X6_sight [.ref 0, .int p, .int a, .int b, .int c, .int d] ((0, oCW nw) :: wLS px py ph rx ry vi sp (nI g) re fx fy mi ax ay bx b2 (nI n)) (some (.int (-1))) ((0, oCW nw) :: wLS px py ph rx ry vi sp (nI g) re fx fy mi ax ay bx b2 (nI n)) := by
    intro z1
    refine ⟨⟨_, rfl⟩, fun z => (by cases z), ?_⟩
    intro g' n' e1 h1 e2 h2
    have e1 : g = g' := nI_inj (by omega) (by omega) e1
    have e2 : n = n' := nI_inj (by omega) (by omega) e2
    subst e1 e2
    exact if_no z1 ⟨rfl, rfl⟩
  refine ⟨Nat.le_of_ble_eq_true rfl, [(76, [0, 1, 2, 3, 4, 5, 6], fun z lv w' => (okG p g a b c d ∧ n < 100 ∧ lv = [(0, .ref 0), (1, .int p), (2, .int a), (3, .int b), (4, .int c), (5, .int d), (6, .int (nI n))] ∧ w' = (0, oCW nw) :: wLS px py ph rx ry vi sp (nI g) re (upd fx n (px p.toNatClampNeg)) (upd fy n (py p.toNatClampNeg)) (upd mi n nw) ax ay bx b2 (nI (n + 1)) ∧ z = 1) ∨ (¬ n < 100 ∧ lv = [(0, .ref 0), (1, .int p), (2, .int a), (3, .int b), (4, .int c), (5, .int d), (6, .int (-1))] ∧ w' = (0, oCW nw) :: wLS px py ph rx ry vi sp (nI g) re fx fy mi ax ay bx b2 (nI n) ∧ z = 1)),
    (97, [0, 1, 2, 3, 4, 5, 6], fun z lv w' => (okG p g a b c d ∧ n < 100 ∧ lv = [(0, .ref 0), (1, .int p), (2, .int a), (3, .int b), (4, .int c), (5, .int d), (6, .int (nI n))] ∧ w' = (0, oCW nw) :: wLS px py ph rx ry vi sp (nI g) re (upd fx n (px p.toNatClampNeg)) (upd fy n (py p.toNatClampNeg)) (upd mi n nw) (upd ax n a) (upd ay n b) (upd bx n c) (upd b2 n d) (nI (n + 1)) ∧ z = 0) ∨ (¬ n < 100 ∧ lv = [(0, .ref 0), (1, .int p), (2, .int a), (3, .int b), (4, .int c), (5, .int d), (6, .int (-1))] ∧ w' = (0, oCW nw) :: wLS px py ph rx ry vi sp (nI g) re fx fy mi ax ay bx b2 (nI n) ∧ z = 0))], 100, 2, ?_, ?_⟩
  · intro y1 hq1 z lv w' hj
    rcases List.mem_cons.mp hq1 with rfl | hq1
    · rcases hj with hj | hj
      · obtain ⟨ok, hn2, rfl, rfl, rfl⟩ := hj
        have hcn : (nI n).toNatClampNeg = n := nI_clamp (by omega)
        generalize upd fx n (px p.toNatClampNeg) = fx1
        generalize upd fy n (py p.toNatClampNeg) = fy1
        generalize upd mi n nw = mi1
        conv => whnf
        refine ⟨fun h1 => ?_, fun h1 => ?_⟩
        · have h1 : nI n = -1 := h1
          exact absurd h1 (nI_ne_m1 (by omega))
        · conv => whnf
          refine ⟨⟨fx1, fy1, mi1, ax, ay, bx, b2, nI (n + 1), nI n, a, b, c, d, rfl, rfl, vp_in_nI hn2 (by omega)⟩, ?_⟩
          intro wc hwc
          have hwc : wc = wSg fx1 fy1 mi1 (upd ax (nI n).toNatClampNeg a) (upd ay (nI n).toNatClampNeg b) (upd bx (nI n).toNatClampNeg c) (upd b2 (nI n).toNatClampNeg d) (nI (n + 1)) := hwc
          rw [hcn] at hwc
          subst hwc
          conv => whnf
          refine ⟨0, by omega, Or.inl ⟨ok, hn2, rfl, rfl, rfl⟩⟩
      · obtain ⟨hn2, rfl, rfl, rfl⟩ := hj
        conv => whnf
        refine ⟨fun h1 => ?_, fun h1 => ?_⟩
        · conv => whnf
          refine ⟨0, by omega, Or.inr ⟨hn2, rfl, rfl, rfl⟩⟩
        · exact absurd rfl h1
    rcases List.mem_cons.mp hq1 with rfl | hq1
    · rcases hj with hj | hj
      · obtain ⟨ok, hn2, rfl, rfl, rfl⟩ := hj
        conv => whnf
        refine ⟨⟨_, rfl⟩, fun z => (by cases z), ?_⟩
        intro g' n' e1 h1 e2 h2
        have e1 : g = g' := nI_inj (by omega) (by omega) e1
        have e2 : n = n' := nI_inj (by omega) (by omega) e2
        subst e1 e2
        exact if_yes ⟨ok, hn2⟩ ⟨rfl, rfl⟩
      · obtain ⟨hn2, rfl, rfl, rfl⟩ := hj
        conv => whnf
        exact no (fun z => hn2 z.2)
    · exact absurd hq1 List.not_mem_nil
  · conv => whnf
    refine ⟨⟨px, py, ph, rx, ry, vi, sp, nI g, re, p, rfl, rfl, trivial⟩, ?_⟩
    intro r hr
    obtain rfl : r = bI (okS p g) := hr
    conv => whnf
    refine ⟨fun h1 => ?_, fun h1 => ?_⟩
    · exact no (fun z => bI_0 h1 z.1.1)
    · conv => whnf
      refine ⟨⟨_, _, rfl, rfl, trivial⟩, ?_⟩
      intro r hr
      obtain rfl : r = bI (okE a b) := hr
      conv => whnf
      refine ⟨fun h2 => ?_, fun h2 => ?_⟩
      · exact no (fun z => bI_0 h2 z.1.2.1)
      · conv => whnf
        refine ⟨⟨_, _, rfl, rfl, trivial⟩, ?_⟩
        intro r hr
        obtain rfl : r = bI (okE c d) := hr
        conv => whnf
        refine ⟨fun h3 => ?_, fun h3 => ?_⟩
        · exact no (fun z => bI_0 h3 z.1.2.2.1)
        · conv => whnf
          refine ⟨fun h4 => ?_, fun h4 => ?_⟩
          · have hv := okS_vp (bI_n h1) hg (by omega)
            conv => whnf
            refine ⟨hv, ?_⟩
            conv => whnf
            refine ⟨hv, ?_⟩
            conv => whnf
            refine ⟨⟨fx, fy, mi, ax, ay, bx, b2, _, _, _, n, rfl, rfl, hn⟩, ?_⟩
            intro r wc hwc
            have hwc := hwc n rfl hn
            by_cases hn2 : n < 100
            · obtain ⟨rfl, rfl⟩ := if_y hwc hn2
              conv => whnf
              rintro _ rfl
              conv => whnf
              refine ⟨1, by omega, Or.inl ⟨⟨bI_n h1, bI_n h2, bI_n h3, h4⟩, hn2, rfl, rfl, rfl⟩⟩
            · obtain ⟨hr, rfl⟩ := if_n hwc hn2
              have hr : r = -1 := hr
              subst hr
              conv => whnf
              rintro _ rfl
              conv => whnf
              refine ⟨1, by omega, Or.inr ⟨hn2, rfl, rfl, rfl⟩⟩
          · exact no (fun z => h4 z.1.2.2.2)
theorem rv_X6_sight : rz_Rv yX6_sight.cls ce_X6_sight := fun av w h => by
  obtain ⟨_, _, _, _, _, _, _, _, _, _, _, _, _, _, _, _, _, _, _, _, _, _, _, rfl, rfl, _⟩ := h
  exact ⟨_, _, _, _, _, _, rfl, rfl, rfl⟩
theorem cn_X6_sight (l : Launch) : rz_Con l yX6_sight cX6_sight 7 (some .int) 2 0 0 ce_X6_sight := rz_con (by decide +kernel) fo_X6 (by
  intro q hq
  rcases List.mem_cons.mp hq with rfl | hq
  · exact rz_callS (cn_X6_isEdge l) (by decide +kernel) ⟨Nat.le_of_ble_eq_true rfl, Nat.le_of_ble_eq_true rfl⟩ m_X6_isEdge t_X6_isEdge n_X6_93
  exact absurd hq List.not_mem_nil) (by
  intro q hq
  rcases List.mem_cons.mp hq with rfl | hq
  · exact rz_callVN (cn_X2_hasPost l) (by decide +kernel) ⟨Nat.le_of_ble_eq_true rfl, Nat.le_of_ble_eq_true rfl⟩ m_X2_hasPost rfl i_X2_hasPost v_X2_hasPost rv_X2_hasPost n_X6_79
  rcases List.mem_cons.mp hq with rfl | hq
  · exact rz_callVN (cn_X5_add l) (by decide +kernel) ⟨Nat.le_of_ble_eq_true rfl, Nat.le_of_ble_eq_true rfl⟩ m_X5_add rfl i_X5_add v_X5_add rv_X5_add n_X6_102
  rcases List.mem_cons.mp hq with rfl | hq
  · exact rz_callVN (cn_X5_setEdges l) (by decide +kernel) ⟨Nat.le_of_ble_eq_true rfl, Nat.le_of_ble_eq_true rfl⟩ m_X5_setEdges rfl i_X5_setEdges v_X5_setEdges rv_X5_setEdges n_X6_105
  exact absurd hq List.not_mem_nil) r_X6_sight vc_X6_sight
def ce_X6_speed : rz_K := (2, 0 :: kPl, 0, false, fun av w => ∃ (fi se mi tk le bo rg tp la : Nat → Int32) (nw sz tr sp x : Int32), av = [.ref 0, .int x] ∧ w = (0, oCW nw) :: wPl fi se mi tk le bo rg tp la sz tr sp ∧ True, fun av w o w' => if 1 ≤ rA av 1 ∧ rA av 1 ≤ 100 then rR o = 1 ∧ w' = (0, oCW (rF w 0 6)) :: wPl (rI w 28) (rI w 29) (rI w 30) (rI w 31) (rI w 32) (rI w 33) (rI w 34) (rI w 35) (rI w 36) (rF w 27 9) (rF w 27 10) (rA av 1) else rR o = 0 ∧ w' = w)
def cl_X6_speed : List (Nat × rz_K) := [(59, ce_X6_isWithin)]
def cv_X6_speed : List (Nat × rz_K) := []
theorem vc_X6_speed : rz_VC k_X6_speed fl_X6 cl_X6_speed cv_X6_speed s_X6_speed true 2 ce_X6_speed := by
  intro av w hlen hk hpre
  obtain ⟨fi, se, mi, tk, le, bo, rg, tp, la, nw, sz, tr, sp, x, rfl, rfl, -⟩ := hpre
  refine ⟨Nat.le_of_ble_eq_true rfl, [], 60, 0, fun q h => absurd h List.not_mem_nil, ?_⟩
  conv => whnf
  refine ⟨⟨_, _, _, rfl, rfl, trivial⟩, ?_⟩
  intro r hr
  obtain rfl : r = bI (1 ≤ x ∧ x ≤ 100) := hr
  conv => whnf
  refine ⟨fun h1 => ?_, fun h1 => ?_⟩
  · exact ⟨Or.inl rfl, ⟨_, rfl⟩, fun z => (by cases z), if_no (bI_0 h1) ⟨rfl, rfl⟩⟩
  · exact ⟨Or.inr rfl, ⟨_, rfl⟩, fun z => (by cases z), if_yes (bI_n h1) ⟨rfl, rfl⟩⟩
theorem rv_X6_speed : rz_Rv yX6_speed.cls ce_X6_speed := fun av w h => by
  obtain ⟨_, _, _, _, _, _, _, _, _, _, _, _, _, _, rfl, rfl, _⟩ := h
  exact ⟨_, _, _, _, _, _, rfl, rfl, rfl⟩
theorem cn_X6_speed (l : Launch) : rz_Con l yX6_speed cX6_speed 2 (some .boolean) 1 0 0 ce_X6_speed := rz_con (by decide +kernel) fo_X6 (by
  intro q hq
  rcases List.mem_cons.mp hq with rfl | hq
  · exact rz_callS (cn_X6_isWithin l) (by decide +kernel) ⟨Nat.le_of_ble_eq_true rfl, Nat.le_of_ble_eq_true rfl⟩ m_X6_isWithin t_X6_isWithin n_X6_59
  exact absurd hq List.not_mem_nil) (fun _ h => absurd h List.not_mem_nil) r_X6_speed vc_X6_speed
def ce_X6_track : rz_K := (3, 0 :: kPl, 0, true, fun av w => ∃ (fi se mi tk le bo rg tp la : Nat → Int32) (nw tr sp p q : Int32) (n : Nat), av = [.ref 0, .int p, .int q] ∧ w = (0, oCW nw) :: wPl fi se mi tk le bo rg tp la (nI n) tr sp ∧ n ≤ 60, fun av w o _ => ∀ n, rF w 27 9 = nI n → n ≤ 60 → rR o = if okS (rA av 1) n then (if rA av 2 = 0 then rI w 31 (rA av 1).toNatClampNeg else if rA av 2 = 1 then rI w 28 (rA av 1).toNatClampNeg else if rA av 2 = 2 then rI w 29 (rA av 1).toNatClampNeg else if rA av 2 = 3 then rI w 30 (rA av 1).toNatClampNeg else -1) else -1)
def cl_X6_track : List (Nat × rz_K) := []
def cv_X6_track : List (Nat × rz_K) := [(137, ce_X3_partOf)]
theorem vc_X6_track : rz_VC k_X6_track fl_X6 cl_X6_track cv_X6_track s_X6_track false 3 ce_X6_track := by
  intro av w hlen hk hpre
  obtain ⟨fi, se, mi, tk, le, bo, rg, tp, la, nw, tr, sp, p, q, n, rfl, rfl, hn⟩ := hpre
  refine ⟨Nat.le_of_ble_eq_true rfl, [], 60, 0, fun q h => absurd h List.not_mem_nil, ?_⟩
  conv => whnf
  refine ⟨⟨fi, se, mi, tk, le, bo, rg, tp, la, tr, sp, p, q, n, rfl, rfl, hn⟩, ?_⟩
  intro r hr
  conv => whnf
  exact ⟨⟨_, rfl⟩, fun _ => rfl, hr⟩
theorem rv_X6_track : rz_Rv yX6_track.cls ce_X6_track := fun av w h => by
  obtain ⟨_, _, _, _, _, _, _, _, _, _, _, _, _, _, _, rfl, rfl, _⟩ := h
  exact ⟨_, _, _, _, _, _, rfl, rfl, rfl⟩
theorem cn_X6_track (l : Launch) : rz_Con l yX6_track cX6_track 3 (some .int) 2 0 0 ce_X6_track := rz_con (by decide +kernel) fo_X6 (fun _ h => absurd h List.not_mem_nil) (by
  intro q hq
  rcases List.mem_cons.mp hq with rfl | hq
  · exact rz_callVN (cn_X3_partOf l) (by decide +kernel) ⟨Nat.le_of_ble_eq_true rfl, Nat.le_of_ble_eq_true rfl⟩ m_X3_partOf rfl i_X3_partOf v_X3_partOf rv_X3_partOf n_X6_137
  exact absurd hq List.not_mem_nil) r_X6_track vc_X6_track
end
section
/-! CoastWatch: plotted. -/
abbrev wSP (fx fy mi ax ay bx b2 : Nat → Int32) (n : Int32) (a b c ex ey tx lx ty ly : Nat → Int64) (co : Int32) (fi se mj tk le bo rg tp la : Nat → Int32) (sz tr sp : Int32) : rz_W := [(9, ro 5 [.ref 10, .ref 11, .ref 12, .ref 13, .ref 14, .ref 15, .ref 16, .int n]), (10, ri 100 fx), (11, ri 100 fy), (12, ri 100 mi), (13, ri 100 ax), (14, ri 100 ay), (15, ri 100 bx), (16, ri 100 b2), (17, ro 4 [.ref 18, .ref 19, .ref 20, .ref 21, .ref 22, .ref 23, .ref 24, .ref 25, .ref 26, .int co]), (18, rl 4 a), (19, rl 4 b), (20, rl 4 c), (21, rl 4 ex), (22, rl 4 ey), (23, rl 6 tx), (24, rl 6 lx), (25, rl 6 ty), (26, rl 6 ly), (27, ro 3 [.ref 28, .ref 29, .ref 30, .ref 31, .ref 32, .ref 33, .ref 34, .ref 35, .ref 36, .int sz, .int tr, .int sp]), (28, ri 60 fi), (29, ri 60 se), (30, ri 60 mj), (31, ri 60 tk), (32, ri 60 le), (33, ri 60 bo), (34, ri 60 rg), (35, ri 60 tp), (36, ri 60 la)]
abbrev kSP : List Nat := [9, 10, 11, 12, 13, 14, 15, 16, 17, 18, 19, 20, 21, 22, 23, 24, 25, 26, 27, 28, 29, 30, 31, 32, 33, 34, 35, 36]
theorem rz_back_app : ∀ (w u v : rz_W), rz_back w (u ++ v) = rz_back (rz_back w u) v
  | _, [], _ => rfl
  | w, (k, c) :: u, v => rz_back_app (rz_set w k c) u v
def ce_X6_plotted : rz_K := (3, 0 :: kSP, 0, false, fun av w => ∃ (fx fy mi ax ay bx b2 : Nat → Int32) (a b c ex ey tx lx ty ly : Nat → Int64) (fi se mj tk le bo rg tp la : Nat → Int32) (nw co sp x y : Int32) (n z m : Nat), av = [.ref 0, .int x, .int y] ∧ w = (0, oCW nw) :: wSP fx fy mi ax ay bx b2 (nI n) a b c ex ey tx lx ty ly co fi se mj tk le bo rg tp la (nI z) (nI m) sp ∧ n ≤ 100 ∧ z ≤ 60 ∧ m ≤ z ∧ ∀ t, t < m → vp_in (la t) 60, fun av w o w' => ∀ n z m, rF w 9 7 = nI n → n ≤ 100 → rF w 27 9 = nI z → z ≤ 60 → rF w 27 10 = nI m → m ≤ z → ∃ (a' b' c' ex' ey' tx' lx' ty' ly' : Nat → Int64) (k r : Int32), mtR (rI w 10) (rI w 11) (rI w 12) (rI w 13) (rI w 14) (rI w 15) (rI w 16) n (rJ w 18) (rJ w 19) (rJ w 20) (rJ w 21) (rJ w 22) (rJ w 23) (rJ w 24) (rJ w 25) (rJ w 26) (rF w 17 9) (rA av 1) (rA av 2) r a' b' c' ex' ey' tx' lx' ty' ly' k ∧
  if r = 1 ∧ (z < 60 ∧ ∀ p, p < z → ¬ duP (rI w 28) (rI w 29) (rA av 1) (rA av 2) p) then ∃ j, j ≤ 6 ∧ k = nI j ∧ ∀ mi' le' bo' rg' tp' : Nat → Int32, mi' = upd (rI w 30) z (rI w 12 (rA av 1).toNatClampNeg) → le' = upd (rI w 32) z (bxF tx' lx' ty' ly' j 0) → bo' = upd (rI w 33) z (bxF tx' lx' ty' ly' j 1) → rg' = upd (rI w 34) z (bxF tx' lx' ty' ly' j 2) → tp' = upd (rI w 35) z (bxF tx' lx' ty' ly' j 3) → ∀ T, T = trF (ntF mi' (rI w 36) le' bo' rg' tp' (rF w 27 11) z m).1 m → rR o = nI T ∧ T ≤ m ∧ w' = (0, oCW (rF w 0 6)) :: wSP (rI w 10) (rI w 11) (rI w 12) (rI w 13) (rI w 14) (rI w 15) (rI w 16) (rF w 9 7) a' b' c' ex' ey' tx' lx' ty' ly' k (upd (rI w 28) z (rA av 1)) (upd (rI w 29) z (rA av 2)) mi' (upd (rI w 31) z (nI T)) le' bo' rg' tp' (upd (rI w 36) T (nI z)) (nI (z + 1)) (nI (if T = m then m + 1 else m)) (rF w 27 11)
  else rR o = -1 ∧ w' = (0, oCW (rF w 0 6)) :: wSP (rI w 10) (rI w 11) (rI w 12) (rI w 13) (rI w 14) (rI w 15) (rI w 16) (rF w 9 7) a' b' c' ex' ey' tx' lx' ty' ly' k (rI w 28) (rI w 29) (rI w 30) (rI w 31) (rI w 32) (rI w 33) (rI w 34) (rI w 35) (rI w 36) (rF w 27 9) (rF w 27 10) (rF w 27 11))
def cl_X6_plotted : List (Nat × rz_K) := []
def cv_X6_plotted : List (Nat × rz_K) := [(109, ce_X6_meet), (125, ce_X3_takes), (131, ce_X3_add)]
set_option maxHeartbeats 4000000 in
theorem vc_X6_plotted : rz_VC k_X6_plotted fl_X6 cl_X6_plotted cv_X6_plotted s_X6_plotted false 3 ce_X6_plotted := by
  intro av w hlen hk hpre
  obtain ⟨fx, fy, mi, ax, ay, bx, b2, a, b, c, ex, ey, tx, lx, ty, ly, fi, se, mj, tk, le, bo, rg, tp, la, nw, co, sp, x, y, n, z, m, rfl, rfl, hn, hz, hm, hla⟩ := hpre
  refine ⟨Nat.le_of_ble_eq_true rfl, [], 60, 0, fun q h => absurd h List.not_mem_nil, ?_⟩
  have no : ∀ (a' b' c' ex' ey' tx' lx' ty' ly' : Nat → Int64) (k r : Int32), mtR fx fy mi ax ay bx b2 n a b c ex ey tx lx ty ly co x y r a' b' c' ex' ey' tx' lx' ty' ly' k → ¬ (r = 1 ∧ (z < 60 ∧ ∀ p, p < z → ¬ duP fi se x y p)) → rz_end ce_X6_plotted [.ref 0, .int x, .int y] ((0, oCW nw) :: wSP fx fy mi ax ay bx b2 (nI n) a b c ex ey tx lx ty ly co fi se mj tk le bo rg tp la (nI z) (nI m) sp) (some (.int (-1))) ((0, oCW nw) :: wSP fx fy mi ax ay bx b2 (nI n) a' b' c' ex' ey' tx' lx' ty' ly' k fi se mj tk le bo rg tp la (nI z) (nI m) sp) := by
    intro a' b' c' ex' ey' tx' lx' ty' ly' k r h1 h2
    refine ⟨⟨_, rfl⟩, fun z => (by cases z), ?_⟩
    intro n' z' m' e1 g1 e2 g2 e3 g3
    have e1 : n = n' := nI_inj (by omega) (by omega) e1
    have e2 : z = z' := nI_inj (by omega) (by omega) e2
    have e3 : m = m' := nI_inj (by omega) (by omega) e3
    subst e1 e2 e3
    exact ⟨a', b', c', ex', ey', tx', lx', ty', ly', k, r, h1, if_no h2 ⟨rfl, rfl⟩⟩
  conv => whnf
  refine ⟨⟨fx, fy, mi, ax, ay, bx, b2, a, b, c, ex, ey, tx, lx, ty, ly, nw, co, x, y, n, rfl, rfl, hn⟩, ?_⟩
  intro r wc hwc
  obtain ⟨a', b', c', ex', ey', tx', lx', ty', ly', k, h1, hw⟩ := hwc n rfl hn
  have hw : wc = (0, oCW nw) :: wSS fx fy mi ax ay bx b2 (nI n) a' b' c' ex' ey' tx' lx' ty' ly' k := hw
  have h1 : mtR fx fy mi ax ay bx b2 n a b c ex ey tx lx ty ly co x y r a' b' c' ex' ey' tx' lx' ty' ly' k := h1
  subst hw
  have e : rz_back ((0, oCW nw) :: wSP fx fy mi ax ay bx b2 (nI n) a b c ex ey tx lx ty ly co fi se mj tk le bo rg tp la (nI z) (nI m) sp) ((0, oCW nw) :: wSS fx fy mi ax ay bx b2 (nI n) a' b' c' ex' ey' tx' lx' ty' ly' k) = (0, oCW nw) :: wSP fx fy mi ax ay bx b2 (nI n) a' b' c' ex' ey' tx' lx' ty' ly' k fi se mj tk le bo rg tp la (nI z) (nI m) sp := rz_back_pre (w := (0, oCW nw) :: wSS fx fy mi ax ay bx b2 (nI n) a b c ex ey tx lx ty ly co) (q := wPl fi se mj tk le bo rg tp la (nI z) (nI m) sp) rfl (show (0 :: kSS).Nodup by decide +kernel)
  rw [e]
  conv => whnf
  refine ⟨fun h2 => ?_, fun h2 => ?_⟩
  · have h2 : r = 1 := h2
    obtain ⟨ok1, ok2, j, hj, rfl⟩ := mtR_1 h1 h2
    conv => whnf
    refine ⟨⟨fi, se, mj, tk, le, bo, rg, tp, la, nI m, sp, x, y, z, rfl, rfl, hz⟩, ?_⟩
    intro r2 hr2
    obtain rfl : r2 = bI (z < 60 ∧ ∀ p, p < z → ¬ duP fi se x y p) := hr2 z rfl hz
    conv => whnf
    refine ⟨fun h3 => ?_, fun h3 => ?_⟩
    · exact no _ _ _ _ _ _ _ _ _ _ _ h1 (fun q => bI_0 h3 q.2)
    · have h3 := bI_n h3
      conv => whnf
      refine ⟨okS_vp ok1 hn (by omega), ?_⟩
      conv => whnf
      refine ⟨⟨fi, se, mj, tk, le, bo, rg, tp, la, sp, a', b', c', ex', ey', tx', lx', ty', ly', x, y, mi x.toNatClampNeg, z, m, j, rfl, rfl, h3.1, hm, hj, hla⟩, ?_⟩
      intro r3 wd hwd
      have hwd := hwd z m j rfl h3.1 rfl hm rfl hj _ _ _ _ _ rfl rfl rfl rfl rfl _ rfl
      obtain ⟨g1, g2, hw⟩ := hwd
      have g1 : r3 = _ := g1
      generalize hT : trF _ m = T at g1 g2 hw
      have hT : trF (ntF (upd mj z (mi x.toNatClampNeg)) la (upd le z (bxF tx' lx' ty' ly' j 0)) (upd bo z (bxF tx' lx' ty' ly' j 1)) (upd rg z (bxF tx' lx' ty' ly' j 2)) (upd tp z (bxF tx' lx' ty' ly' j 3)) sp z m).1 m = T := hT
      have hw : wd = wPS (upd fi z x) (upd se z y) (upd mj z (mi x.toNatClampNeg)) (upd tk z (nI T)) (upd le z (bxF tx' lx' ty' ly' j 0)) (upd bo z (bxF tx' lx' ty' ly' j 1)) (upd rg z (bxF tx' lx' ty' ly' j 2)) (upd tp z (bxF tx' lx' ty' ly' j 3)) (upd la T (nI z)) (nI (z + 1)) (nI (if T = m then m + 1 else m)) sp a' b' c' ex' ey' tx' lx' ty' ly' (nI j) := hw
      subst hw
      subst g1
      have e2 : rz_back ((0, oCW nw) :: wSP fx fy mi ax ay bx b2 (nI n) a' b' c' ex' ey' tx' lx' ty' ly' (nI j) fi se mj tk le bo rg tp la (nI z) (nI m) sp) (wPS (upd fi z x) (upd se z y) (upd mj z (mi x.toNatClampNeg)) (upd tk z (nI T)) (upd le z (bxF tx' lx' ty' ly' j 0)) (upd bo z (bxF tx' lx' ty' ly' j 1)) (upd rg z (bxF tx' lx' ty' ly' j 2)) (upd tp z (bxF tx' lx' ty' ly' j 3)) (upd la T (nI z)) (nI (z + 1)) (nI (if T = m then m + 1 else m)) sp a' b' c' ex' ey' tx' lx' ty' ly' (nI j)) = (0, oCW nw) :: wSP fx fy mi ax ay bx b2 (nI n) a' b' c' ex' ey' tx' lx' ty' ly' (nI j) (upd fi z x) (upd se z y) (upd mj z (mi x.toNatClampNeg)) (upd tk z (nI T)) (upd le z (bxF tx' lx' ty' ly' j 0)) (upd bo z (bxF tx' lx' ty' ly' j 1)) (upd rg z (bxF tx' lx' ty' ly' j 2)) (upd tp z (bxF tx' lx' ty' ly' j 3)) (upd la T (nI z)) (nI (z + 1)) (nI (if T = m then m + 1 else m)) sp := by
        generalize upd fi z x = fi'
        generalize upd se z y = se'
        generalize upd mj z (mi x.toNatClampNeg) = mj'
        generalize upd tk z (nI T) = tk'
        generalize upd le z (bxF tx' lx' ty' ly' j 0) = le'
        generalize upd bo z (bxF tx' lx' ty' ly' j 1) = bo'
        generalize upd rg z (bxF tx' lx' ty' ly' j 2) = rg'
        generalize upd tp z (bxF tx' lx' ty' ly' j 3) = tp'
        generalize upd la T (nI z) = la'
        have q1 := rz_back_at [] (wPl fi' se' mj' tk' le' bo' rg' tp' la' (nI (z + 1)) (nI (if T = m then m + 1 else m)) sp) ((0, oCW nw) :: wSS fx fy mi ax ay bx b2 (nI n) a' b' c' ex' ey' tx' lx' ty' ly' (nI j)) (wPl fi se mj tk le bo rg tp la (nI z) (nI m) sp) rfl (show (0 :: kSP).Nodup by decide +kernel)
        have q2 := rz_back_at (wPl fi' se' mj' tk' le' bo' rg' tp' la' (nI (z + 1)) (nI (if T = m then m + 1 else m)) sp) (wSh a' b' c' ex' ey' tx' lx' ty' ly' (nI j)) ((0, oCW nw) :: wSg fx fy mi ax ay bx b2 (nI n)) (wSh a' b' c' ex' ey' tx' lx' ty' ly' (nI j)) rfl (show (0 :: kSS).Nodup by decide +kernel)
        exact (rz_back_app _ _ _).trans ((congrArg (fun q => rz_back q (wSh a' b' c' ex' ey' tx' lx' ty' ly' (nI j))) q1).trans q2)
      rw [e2]
      conv => whnf
      refine ⟨⟨_, rfl⟩, fun z => (by cases z), ?_⟩
      intro n' z' m' e1 q1 e2 q2 e3 q3
      have e1 : n = n' := nI_inj (by omega) (by omega) e1
      have e2 : z = z' := nI_inj (by omega) (by omega) e2
      have e3 : m = m' := nI_inj (by omega) (by omega) e3
      subst e1 e2 e3
      refine ⟨a', b', c', ex', ey', tx', lx', ty', ly', nI j, r, h1, if_yes ⟨h2, h3⟩ ⟨j, hj, rfl, ?_⟩⟩
      intro mi' le' bo' rg' tp' q1 q2 q3 q4 q5 T' hT'
      subst q1 q2 q3 q4 q5
      have hT' : T' = T := hT'.trans hT
      subst hT'
      exact ⟨rfl, g2, rfl⟩
  · exact no _ _ _ _ _ _ _ _ _ _ _ h1 (fun q => h2 q.1)
theorem rv_X6_plotted : rz_Rv yX6_plotted.cls ce_X6_plotted := fun av w h => by
  obtain ⟨_, _, _, _, _, _, _, _, _, _, _, _, _, _, _, _, _, _, _, _, _, _, _, _, _, _, _, _, _, _, _, _, _, rfl, rfl, _⟩ := h
  exact ⟨_, _, _, _, _, _, rfl, rfl, rfl⟩
theorem cn_X6_plotted (l : Launch) : rz_Con l yX6_plotted cX6_plotted 3 (some .int) 6 0 0 ce_X6_plotted := rz_con (by decide +kernel) fo_X6 (fun _ h => absurd h List.not_mem_nil) (by
  intro q hq
  rcases List.mem_cons.mp hq with rfl | hq
  · exact rz_callV (cn_X6_meet l) (by decide +kernel) ⟨Nat.le_of_ble_eq_true rfl, Nat.le_of_ble_eq_true rfl⟩ m_X6_meet rfl i_X6_meet v_X6_meet rv_X6_meet n_X6_109
  rcases List.mem_cons.mp hq with rfl | hq
  · exact rz_callVN (cn_X3_takes l) (by decide +kernel) ⟨Nat.le_of_ble_eq_true rfl, Nat.le_of_ble_eq_true rfl⟩ m_X3_takes rfl i_X3_takes v_X3_takes rv_X3_takes n_X6_125
  rcases List.mem_cons.mp hq with rfl | hq
  · exact rz_callVN (cn_X3_add l) (by decide +kernel) ⟨Nat.le_of_ble_eq_true rfl, Nat.le_of_ble_eq_true rfl⟩ m_X3_add rfl i_X3_add v_X3_add rv_X3_add n_X6_131
  exact absurd hq List.not_mem_nil) r_X6_plotted vc_X6_plotted
end
section
/-! The reference's sightings, bounds, crossings. -/
abbrev wMs2 (o : rz_C) (sg : Nat → Int32) : rz_W := [(50, o), (57, ri 600 sg)]
theorem updL_eq (f : Nat → Int64) (k : Nat) (v : Int64) : vp_updL f k v k = v := if_pos rfl
theorem okS_nat {x : Int32} {n : Nat} (h : okS x n) (hn : n < 2 ^ 30) : ∃ i, i < n ∧ x = nI i := vp_in_of (okS_vp h (Nat.le_refl n) hn) (by omega)
def ce_X7_of : rz_K := (3, [50, 57], 0, true, fun av w => ∃ (sg : Nat → Int32) (th po re nw si pl tr bo pn ca sp co : Int32) (i a : Nat), av = [.ref 50, .int (nI i), .int (nI a)] ∧ w = wMs2 (oMo th po re nw si pl tr bo pn ca sp co) sg ∧ i < 100 ∧ a < 6, fun av w o _ => ∀ i a : Nat, rA av 1 = nI i → rA av 2 = nI a → i < 100 → a < 6 → rR o = rI w 57 (6 * i + a))
def cl_X7_of : List (Nat × rz_K) := []
def cv_X7_of : List (Nat × rz_K) := []
theorem vc_X7_of : rz_VC k_X7_of fl_X7 cl_X7_of cv_X7_of s_X7_of false 3 ce_X7_of := by
  intro av w hlen hk hpre
  obtain ⟨sg, th, po, re, nw, si, pl, tr, bo, pn, ca, sp, co, i, a, rfl, rfl, hi, ha⟩ := hpre
  refine ⟨Nat.le_of_ble_eq_true rfl, [], 30, 0, fun q h => absurd h List.not_mem_nil, ?_⟩
  have e : (6 : Int32) * nI i + nI a = nI (6 * i + a) := by
    show nI 6 * nI i + nI a = _
    rw [pk_mul, nI_add]
  have hv : vp_in ((6 : Int32) * nI i + nI a) 600 := by rw [e]; exact vp_in_nI (by omega) (by omega)
  conv => whnf
  refine ⟨hv, ?_⟩
  conv => whnf
  refine ⟨⟨_, rfl⟩, fun _ => rfl, ?_⟩
  intro i' a' e1 e2 h1 h2
  have e1 : i = i' := nI_inj (by omega) (by omega) e1
  have e2 : a = a' := nI_inj (by omega) (by omega) e2
  subst e1 e2
  show sg ((6 : Int32) * nI i + nI a).toNatClampNeg = sg (6 * i + a)
  rw [e, nI_clamp (by omega)]
theorem rv_X7_of : rz_Rv yX7_of.cls ce_X7_of := fun av w h => by
  obtain ⟨_, _, _, _, _, _, _, _, _, _, _, _, _, _, _, rfl, rfl, _⟩ := h
  exact ⟨_, _, _, _, _, _, rfl, rfl, rfl⟩
theorem cn_X7_of (l : Launch) : rz_Con l yX7_of cX7_of 3 (some .int) 0 0 0 ce_X7_of := rz_con (by decide +kernel) fo_X7 (fun _ h => absurd h List.not_mem_nil) (fun _ h => absurd h List.not_mem_nil) r_X7_of vc_X7_of
def tl6 (a b c d e f : Int32) : Nat → Int32 := upd (upd (upd (upd (upd (upd (fun _ => 0) 0 a) 1 b) 2 c) 3 d) 4 e) 5 f
theorem okE_iff {a b : Int32} : okE a b ↔ (-50 ≤ a ∧ a ≤ 50) ∧ (-50 ≤ b ∧ b ≤ 50) := ⟨fun h => ⟨⟨h.1, h.2.1⟩, h.2.2⟩, fun h => ⟨h.1.1, h.1.2, h.2⟩⟩
def ce_X7_sight : rz_K := (6, [50, 57], 0, false, fun av w => ∃ (sg : Nat → Int32) (th re nw pl tr bo pn ca sp co p a b c d : Int32) (g n : Nat), av = [.ref 50, .int p, .int a, .int b, .int c, .int d] ∧ w = wMs2 (oMo th (nI g) re nw (nI n) pl tr bo pn ca sp co) sg ∧ n ≤ 100, fun av w o w' => ∀ g n : Nat, rF w 50 7 = nI g → g ≤ 6 → rF w 50 10 = nI n → n ≤ 100 → if okG (rA av 1) g (rA av 2) (rA av 3) (rA av 4) (rA av 5) ∧ n < 100 then rR o = nI n ∧ w' = rz_set (mset (mset w 0 0) 10 (nI (n + 1))) 57 (ri 600 (cpN (tl6 (rA av 1) (rF w 50 9) (rA av 2) (rA av 3) (rA av 4) (rA av 5)) (6 * n) (rI w 57) 6)) else rR o = -1 ∧ w' = mset w 0 0)
def cl_X7_sight : List (Nat × rz_K) := [(87, ce_X7_isIn)]
def cv_X7_sight : List (Nat × rz_K) := []
set_option maxRecDepth 20000 in
set_option maxHeartbeats 4000000 in
theorem vc_X7_sight : rz_VCA [900] 1 6 k_X7_sight fl_X7 cl_X7_sight cv_X7_sight s_X7_sight false 8 ce_X7_sight := by
  intro av w hlen hk hpre
  obtain ⟨sg, th, re, nw, pl, tr, bo, pn, ca, sp, co, p, a, b, c, d, g, n, rfl, rfl, hn⟩ := hpre
  have no : ¬ (((0 ≤ p ∧ p ≤ nI g - 1) ∧ okE a b ∧ okE c d ∧ 0 < a * d - b * c) ∧ n < 100) → rz_endA [900] ce_X7_sight [.ref 50, .int p, .int a, .int b, .int c, .int d] (wMs2 (oMo th (nI g) re nw (nI n) pl tr bo pn ca sp co) sg) (some (.int (-1))) (wMs2 (oMo 0 (nI g) re nw (nI n) pl tr bo pn ca sp co) sg) := by
    intro z1
    refine ⟨⟨0, rfl⟩, _, rfl, rfl, ⟨_, rfl⟩, fun z => (by cases z), ?_⟩
    intro g' n' e1 h1 e2 h2
    have e1 : nI g = nI g' := e1
    have e2 : n = n' := nI_inj (by omega) (by omega) e2
    subst e2
    exact if_no (by rw [okG, okS, ← e1]; exact z1) ⟨rfl, rfl⟩
  refine ⟨Nat.le_of_ble_eq_true rfl, [
    (126, [0, 6, 7], fun z lv w' => ∃ i : Nat, ((0 ≤ p ∧ p ≤ nI g - 1) ∧ okE a b ∧ okE c d ∧ 0 < a * d - b * c) ∧ n < 100 ∧ i ≤ 6 ∧ lv = [(0, .ref 50), (6, .ref 900), (7, .int (nI i))] ∧ w' = [(50, oMo 0 (nI g) re nw (nI n) pl tr bo pn ca sp co), (57, ri 600 (cpN (tl6 p nw a b c d) (6 * n) sg i)), (900, ri 6 (tl6 p nw a b c d))] ∧ z = 6 - i)], 150, 7, ?_, ?_⟩
  · intro y hq z lv w' hj
    rcases List.mem_cons.mp hq with rfl | hq
    · obtain ⟨i, hG, hn2, hi, rfl, rfl, rfl⟩ := hj
      conv => whnf
      refine ⟨fun k => ?_, fun k => ?_⟩
      · have k : nI 6 ≤ nI i := k
        have e : i = 6 := by
          have := (nI_leI (by omega) (by omega)).mp k
          omega
        subst e
        refine ⟨⟨1, rfl⟩, _, rfl, rfl, ⟨_, rfl⟩, fun z => (by cases z), ?_⟩
        intro g' n' e1 h1 e2 h2
        have e1 : nI g = nI g' := e1
        have e2 : n = n' := nI_inj (by omega) (by omega) e2
        subst e2
        refine if_yes (by rw [okG, okS, ← e1]; exact ⟨hG, hn2⟩) ⟨?_, ?_⟩
        · show nI n + 1 - 1 = nI n
          exact i32_asc _
        · show wMs2 (oMo 0 (nI g) re nw (nI n + 1) pl tr bo pn ca sp co) (cpN (tl6 p nw a b c d) (6 * n) sg 6) = _
          rw [nI_1]
          rfl
      · have k : ¬ nI 6 ≤ nI i := k
        have hi2 : i < 6 := by
          rcases Nat.lt_or_ge i 6 with z | z
          · exact z
          · exact absurd (nI_le z (by omega)) k
        have hcl : (nI i).toNatClampNeg = i := nI_clamp (by omega)
        have e : (6 : Int32) * nI n + nI i = nI (6 * n + i) := by
          show nI 6 * nI n + nI i = _
          rw [pk_mul, nI_add]
        have hv : vp_in ((6 : Int32) * nI n + nI i) 600 := by rw [e]; exact vp_in_nI (by omega) (by omega)
        conv => whnf
        refine ⟨vp_in_nI hi2 (by omega), ?_⟩
        conv => whnf
        refine ⟨hv, ?_⟩
        conv => whnf
        rintro _ rfl
        conv => whnf
        refine ⟨6 - (i + 1), by omega, i + 1, hG, hn2, by omega, ?_, ?_, rfl⟩
        · show [_, _, (7, Value.int (nI i + 1))] = _
          rw [nI_1]
        · show [_, (57, ri 600 (upd (cpN (tl6 p nw a b c d) (6 * n) sg i) ((6 : Int32) * nI n + nI i).toNatClampNeg (tl6 p nw a b c d (nI i).toNatClampNeg))), _] = _
          rw [hcl, e, nI_clamp (by omega)]
          rfl
    · exact absurd hq List.not_mem_nil
  · conv => whnf
    refine ⟨⟨_, _, _, rfl, rfl, trivial⟩, ?_⟩
    intro r hr
    obtain rfl : r = bI (0 ≤ p ∧ p ≤ nI g - 1) := hr
    conv => whnf
    refine ⟨fun h0 => ?_, fun h0 => ?_⟩
    · exact no (fun z => bI_0 h0 z.1.1)
    · conv => whnf
      refine ⟨fun h1 => ?_, fun h1 => ?_⟩
      · have h1 : nI n = nI 100 := h1
        have h1 := nI_inj (by omega) (by omega) h1
        exact no (fun z => by have := z.2; omega)
      · have h1 : ¬ nI n = nI 100 := h1
        have hn2 : n < 100 := by
          rcases Nat.lt_or_ge n 100 with q | q
          · exact q
          · exact absurd (congrArg nI (show n = 100 by omega)) h1
        conv => whnf
        refine ⟨⟨_, _, _, rfl, rfl, trivial⟩, ?_⟩
        intro r hr
        obtain rfl : r = bI (-50 ≤ a ∧ a ≤ 50) := hr
        conv => whnf
        refine ⟨fun h2 => ?_, fun h2 => ?_⟩
        · exact no (fun z => bI_0 h2 (okE_iff.mp z.1.2.1).1)
        · conv => whnf
          refine ⟨⟨_, _, _, rfl, rfl, trivial⟩, ?_⟩
          intro r hr
          obtain rfl : r = bI (-50 ≤ b ∧ b ≤ 50) := hr
          conv => whnf
          refine ⟨fun h3 => ?_, fun h3 => ?_⟩
          · exact no (fun z => bI_0 h3 (okE_iff.mp z.1.2.1).2)
          · conv => whnf
            refine ⟨⟨_, _, _, rfl, rfl, trivial⟩, ?_⟩
            intro r hr
            obtain rfl : r = bI (-50 ≤ c ∧ c ≤ 50) := hr
            conv => whnf
            refine ⟨fun h4 => ?_, fun h4 => ?_⟩
            · exact no (fun z => bI_0 h4 (okE_iff.mp z.1.2.2.1).1)
            · conv => whnf
              refine ⟨⟨_, _, _, rfl, rfl, trivial⟩, ?_⟩
              intro r hr
              obtain rfl : r = bI (-50 ≤ d ∧ d ≤ 50) := hr
              conv => whnf
              refine ⟨fun h5 => ?_, fun h5 => ?_⟩
              · exact no (fun z => bI_0 h5 (okE_iff.mp z.1.2.2.1).2)
              · conv => whnf
                refine ⟨fun h6 => ?_, fun h6 => ?_⟩
                · have hG : (0 ≤ p ∧ p ≤ nI g - 1) ∧ okE a b ∧ okE c d ∧ 0 < a * d - b * c := ⟨bI_n h0, okE_iff.mpr ⟨bI_n h2, bI_n h3⟩, okE_iff.mpr ⟨bI_n h4, bI_n h5⟩, h6⟩
                  conv => whnf
                  refine ⟨rfl, Nat.le_refl 1, Nat.le_refl 6, ?_⟩
                  conv => whnf
                  refine ⟨vp_in_iff.mpr (by decide), ?_⟩
                  conv => whnf
                  refine ⟨vp_in_iff.mpr (by decide), ?_⟩
                  conv => whnf
                  refine ⟨vp_in_iff.mpr (by decide), ?_⟩
                  conv => whnf
                  refine ⟨vp_in_iff.mpr (by decide), ?_⟩
                  conv => whnf
                  refine ⟨vp_in_iff.mpr (by decide), ?_⟩
                  conv => whnf
                  refine ⟨vp_in_iff.mpr (by decide), ?_⟩
                  conv => whnf
                  rintro _ rfl
                  conv => whnf
                  refine ⟨6, by omega, 0, hG, hn2, by omega, rfl, rfl, rfl⟩
                · exact no (fun z => h6 z.1.2.2.2)
theorem rv_X7_sight : rz_Rv yX7_sight.cls ce_X7_sight := fun av w h => by
  obtain ⟨_, _, _, _, _, _, _, _, _, _, _, _, _, _, _, _, _, _, rfl, rfl, _⟩ := h
  exact ⟨_, _, _, _, _, _, rfl, rfl, rfl⟩
theorem cn_X7_sight (l : Launch) : rz_Con l yX7_sight cX7_sight 8 (some .int) 1 1 6 ce_X7_sight := rz_conA (by decide +kernel) fo_X7 (by
  intro q hq
  rcases List.mem_cons.mp hq with rfl | hq
  · exact rz_callS (cn_X7_isIn l) (by decide +kernel) ⟨Nat.le_of_ble_eq_true rfl, Nat.le_of_ble_eq_true rfl⟩ m_X7_isIn t_X7_isIn n_X7_87
  exact absurd hq List.not_mem_nil) (fun _ h => absurd h List.not_mem_nil) r_X7_sight vc_X7_sight
def sgK (k : Nat) : Int64 := if k = 0 then 1 else -1
abbrev bvA (sg : Nat → Int32) (i k : Nat) : Int64 := -(sg (6 * i + (3 + 2 * k))).toInt64 * sgK k
abbrev bvB (sg : Nat → Int32) (i k : Nat) : Int64 := (sg (6 * i + (2 + 2 * k))).toInt64 * sgK k
abbrev bvC (sg px py : Nat → Int32) (i k : Nat) : Int64 := bvA sg i k * (px (sg (6 * i + 0)).toNatClampNeg).toInt64 + bvB sg i k * (py (sg (6 * i + 0)).toNatClampNeg).toInt64
def bdF (v : Nat → Int64) (q : Nat) (f : Nat → Int64) : Nat → Nat → Int64
  | 0 => f
  | k + 1 => vp_updL (bdF v q f k) (q + k) (v k)
abbrev wMd (o : rz_C) (px py sg : Nat → Int32) (A B C : Nat → Int64) : rz_W := [(50, o), (51, ri 6 px), (52, ri 6 py), (57, ri 600 sg), (67, rl 4 A), (68, rl 4 B), (69, rl 4 C)]
abbrev kMd : List Nat := [50, 51, 52, 57, 67, 68, 69]
def ce_X7_bounds : rz_K := (3, kMd, 2, false, fun av w => ∃ (px py sg : Nat → Int32) (A B C : Nat → Int64) (th po re nw si pl tr bo pn ca sp co : Int32) (i q : Nat), av = [.ref 50, .int (nI i), .int (nI q)] ∧ w = wMd (oMo th po re nw si pl tr bo pn ca sp co) px py sg A B C ∧ i < 100 ∧ q < 3 ∧ vp_in (sg (6 * i + 0)) 6, fun av w _ w' => ∀ i q, rA av 1 = nI i → i < 100 → rA av 2 = nI q → q < 3 → w' = rz_set (rz_set (rz_set w 67 (rl 4 (bdF (bvA (rI w 57) i) q (rJ w 67) 2))) 68 (rl 4 (bdF (bvB (rI w 57) i) q (rJ w 68) 2))) 69 (rl 4 (bdF (bvC (rI w 57) (rI w 51) (rI w 52) i) q (rJ w 69) 2)))
def cl_X7_bounds : List (Nat × rz_K) := []
def cv_X7_bounds : List (Nat × rz_K) := [(119, ce_X7_of)]
set_option maxHeartbeats 4000000 in
theorem vc_X7_bounds : rz_VC k_X7_bounds fl_X7 cl_X7_bounds cv_X7_bounds s_X7_bounds false 11 ce_X7_bounds := by
  intro av w hlen hk hpre
  obtain ⟨px, py, sg, A, B, C, th, po, re, nw, si, pl, tr, bo, pn, ca, sp, co, i, q, rfl, rfl, hi, hq3, hp⟩ := hpre
  refine ⟨Nat.le_of_ble_eq_true rfl, [
    (10, [0, 1, 2, 3, 4], fun z lv w' => ∃ k : Nat, k ≤ 2 ∧ lv = [(0, .ref 50), (1, .int (nI i)), (2, .int (nI q)), (3, .int (sg (6 * i + 0))), (4, .int (nI k))] ∧ w' = wMd (oMo th po re nw si pl tr bo pn ca sp co) px py sg (bdF (bvA sg i) q A k) (bdF (bvB sg i) q B k) (bdF (bvC sg px py i) q C k) ∧ z = (2 - k) * 2 + 1),
    (58, [0, 1, 2, 3, 4, 5, 7, 9], fun z lv w' => ∃ k : Nat, k < 2 ∧ lv = [(0, .ref 50), (1, .int (nI i)), (2, .int (nI q)), (3, .int (sg (6 * i + 0))), (4, .int (nI k)), (5, .long (sg (6 * i + (2 + 2 * k))).toInt64), (7, .long (sg (6 * i + (3 + 2 * k))).toInt64), (9, .long (sgK k))] ∧ w' = wMd (oMo th po re nw si pl tr bo pn ca sp co) px py sg (bdF (bvA sg i) q A k) (bdF (bvB sg i) q B k) (bdF (bvC sg px py i) q C k) ∧ z = (2 - k) * 2)], 100, 6, ?_, ?_⟩
  · intro y1 hq1 z lv w' hj
    rcases List.mem_cons.mp hq1 with rfl | hq1
    · obtain ⟨k, hk2, rfl, rfl, rfl⟩ := hj
      conv => whnf
      refine ⟨fun h => ?_, fun h => ?_⟩
      · have h : nI 2 ≤ nI k := h
        have e : k = 2 := by
          have := (nI_leI (by omega) (by omega)).mp h
          omega
        subst e
        refine ⟨rfl, fun z => (by cases z), ?_⟩
        intro i' q' e1 h1 e2 h2
        have e1 : i = i' := nI_inj (by omega) (by omega) e1
        have e2 : q = q' := nI_inj (by omega) (by omega) e2
        subst e1 e2
        rfl
      · have h : ¬ nI 2 ≤ nI k := h
        have hk3 : k < 2 := by
          rcases Nat.lt_or_ge k 2 with z | z
          · exact z
          · exact absurd (nI_le z (by omega)) h
        have e2 : (2 : Int32) + 2 * nI k = nI (2 + 2 * k) := by
          show nI 2 + nI 2 * nI k = _
          rw [pk_mul, nI_add]
        have e3 : (3 : Int32) + 2 * nI k = nI (3 + 2 * k) := by
          show nI 3 + nI 2 * nI k = _
          rw [pk_mul, nI_add]
        conv => whnf
        refine ⟨⟨sg, th, po, re, nw, si, pl, tr, bo, pn, ca, sp, co, i, 2 + 2 * k, (by show [_, _, Value.int ((2 : Int32) + 2 * nI k)] = _; rw [e2]), rfl, hi, by omega⟩, ?_⟩
        intro r hr
        have hr : r = sg (6 * i + (2 + 2 * k)) := hr i (2 + 2 * k) rfl e2 hi (by omega)
        subst hr
        conv => whnf
        rintro _ rfl
        conv => whnf
        refine ⟨⟨sg, th, po, re, nw, si, pl, tr, bo, pn, ca, sp, co, i, 3 + 2 * k, (by show [_, _, Value.int ((3 : Int32) + 2 * nI k)] = _; rw [e3]), rfl, hi, by omega⟩, ?_⟩
        intro r hr
        have hr : r = sg (6 * i + (3 + 2 * k)) := hr i (3 + 2 * k) rfl e3 hi (by omega)
        subst hr
        conv => whnf
        rintro _ rfl
        conv => whnf
        refine ⟨fun hz => ?_, fun hz => ?_⟩
        · have hz : nI k = nI 0 := hz
          have hz := nI_inj (by omega) (by omega) hz
          subst hz
          conv => whnf
          rintro _ rfl
          conv => whnf
          refine ⟨(2 - 0) * 2, by omega, 0, hk3, rfl, rfl, rfl⟩
        · have hz2 : ¬ k = 0 := fun z => hz (by rw [z]; rfl)
          conv => whnf
          rintro _ rfl
          conv => whnf
          refine ⟨(2 - k) * 2, by omega, k, hk3, ?_, rfl, rfl⟩
          rw [sgK, if_neg hz2]
          rfl
    rcases List.mem_cons.mp hq1 with rfl | hq1
    · obtain ⟨k, hk2, rfl, rfl, rfl⟩ := hj
      have hv : vp_in (nI q + nI k) 4 := by rw [nI_add]; exact vp_in_nI (by omega) (by omega)
      have hc : (nI q + nI k).toNatClampNeg = q + k := by rw [nI_add]; exact nI_clamp (by omega)
      generalize hX : (sg (6 * i + (2 + 2 * k))).toInt64 = dx
      generalize hY : (sg (6 * i + (3 + 2 * k))).toInt64 = dy
      generalize hP : sg (6 * i + 0) = P at *
      conv => whnf
      refine ⟨hv, ?_⟩
      conv => whnf
      refine ⟨hv, ?_⟩
      conv => whnf
      refine ⟨hv, ?_⟩
      conv => whnf
      refine ⟨hp, ?_⟩
      conv => whnf
      refine ⟨hv, ?_⟩
      conv => whnf
      refine ⟨hp, ?_⟩
      conv => whnf
      refine ⟨hv, ?_⟩
      conv => whnf
      rintro _ rfl
      conv => whnf
      refine ⟨(2 - (k + 1)) * 2 + 1, by omega, k + 1, by omega, ?_, ?_, rfl⟩
      · show [_, _, _, _, (4, Value.int (nI k + 1))] = _
        rw [nI_1]
      · show wMd (oMo th po re nw si pl tr bo pn ca sp co) px py sg (vp_updL (bdF (bvA sg i) q A k) (nI q + nI k).toNatClampNeg (-dy * sgK k)) (vp_updL (bdF (bvB sg i) q B k) (nI q + nI k).toNatClampNeg (dx * sgK k)) (vp_updL (bdF (bvC sg px py i) q C k) (nI q + nI k).toNatClampNeg (vp_updL (bdF (bvA sg i) q A k) (nI q + nI k).toNatClampNeg (-dy * sgK k) (nI q + nI k).toNatClampNeg * (px P.toNatClampNeg).toInt64 + vp_updL (bdF (bvB sg i) q B k) (nI q + nI k).toNatClampNeg (dx * sgK k) (nI q + nI k).toNatClampNeg * (py P.toNatClampNeg).toInt64)) = _
        rw [hc, updL_eq, updL_eq, ← hX, ← hY, ← hP]
        rfl
    · exact absurd hq1 List.not_mem_nil
  · conv => whnf
    refine ⟨⟨sg, th, po, re, nw, si, pl, tr, bo, pn, ca, sp, co, i, 0, rfl, rfl, hi, by omega⟩, ?_⟩
    intro r hr
    have hr : r = sg (6 * i + 0) := hr i 0 rfl rfl hi (by omega)
    subst hr
    conv => whnf
    rintro _ rfl
    conv => whnf
    rintro _ rfl
    conv => whnf
    refine ⟨5, by omega, 0, by omega, rfl, rfl, rfl⟩
theorem rv_X7_bounds : rz_Rv yX7_bounds.cls ce_X7_bounds := fun av w h => by
  obtain ⟨_, _, _, _, _, _, _, _, _, _, _, _, _, _, _, _, _, _, _, _, rfl, rfl, _⟩ := h
  exact ⟨_, _, _, _, _, _, rfl, rfl, rfl⟩
theorem cn_X7_bounds (l : Launch) : rz_Con l yX7_bounds cX7_bounds 11 none 1 0 0 ce_X7_bounds := rz_con (by decide +kernel) fo_X7 (fun _ h => absurd h List.not_mem_nil) (by
  intro q hq
  rcases List.mem_cons.mp hq with rfl | hq
  · exact rz_callV (cn_X7_of l) (by decide +kernel) ⟨Nat.le_of_ble_eq_true rfl, Nat.le_of_ble_eq_true rfl⟩ m_X7_of rfl i_X7_of v_X7_of rv_X7_of n_X7_119
  exact absurd hq List.not_mem_nil) r_X7_bounds vc_X7_bounds
abbrev wMw (o : rz_C) (A B C : Nat → Int64) : rz_W := [(50, o), (67, rl 4 A), (68, rl 4 B), (69, rl 4 C)]
def wiP (A B C : Nat → Int64) (x y d : Int64) (f : Int32) (j : Nat) : Prop := if f = 0 then inP A B C x y d j else ruP A B x y j
def ce_X7_isWithin : rz_K := (5, [50, 67, 68, 69], 0, true, fun av w => ∃ (A B C : Nat → Int64) (th po re nw si pl tr bo pn ca sp co : Int32) (x y d : Int64) (f : Int32), av = [.ref 50, .long x, .long y, .long d, .int f] ∧ w = wMw (oMo th po re nw si pl tr bo pn ca sp co) A B C ∧ True, fun av w o _ => rR o = if rA av 4 = 0 then bI (inA (rJ w 67) (rJ w 68) (rJ w 69) (rB av 1) (rB av 2) (rB av 3)) else bI (ruA (rJ w 67) (rJ w 68) (rB av 1) (rB av 2)))
def cl_X7_isWithin : List (Nat × rz_K) := []
def cv_X7_isWithin : List (Nat × rz_K) := []
theorem vc_X7_isWithin : rz_VC k_X7_isWithin fl_X7 cl_X7_isWithin cv_X7_isWithin s_X7_isWithin true 10 ce_X7_isWithin := by
  intro av w hlen hk hpre
  obtain ⟨A, B, C, th, po, re, nw, si, pl, tr, bo, pn, ca, sp, co, x, y, d, f, rfl, rfl, -⟩ := hpre
  refine ⟨Nat.le_of_ble_eq_true rfl, [(6, [0, 1, 3, 5, 7, 8, 9], fun z lv w' => ∃ (i : Nat) (b : Int32), i ≤ 4 ∧ ((b = 1 ∧ ∀ j, j < i → wiP A B C x y d f j) ∨ (b = 0 ∧ ∃ j, j < i ∧ ¬ wiP A B C x y d f j)) ∧ lv = [(0, .ref 50), (1, .long x), (3, .long y), (5, .long d), (7, .int f), (8, .int b), (9, .int (nI i))] ∧ w' = wMw (oMo th po re nw si pl tr bo pn ca sp co) A B C ∧ z = 4 - i)], 60, 5, ?_, ?_⟩
  · intro y1 hq z lv w' hj
    rcases List.mem_cons.mp hq with rfl | hq
    · obtain ⟨i, b, hi, hb, rfl, rfl, rfl⟩ := hj
      conv => whnf
      refine ⟨fun k => ?_, fun k => ?_⟩
      · have k : nI 4 ≤ nI i := k
        have e : i = 4 := by
          have := (nI_leI (by omega) (by omega)).mp k
          omega
        subst e
        have fin : b = if f = 0 then bI (inA A B C x y d) else bI (ruA A B x y) := by
          rcases hb with ⟨rfl, h⟩ | ⟨rfl, j, h1, h2⟩
          · by_cases hf : f = 0
            · rw [if_pos hf]
              exact bI_t (all4 (fun j hj => by have := h j hj; unfold wiP at this; rw [if_pos hf] at this; exact this))
            · rw [if_neg hf]
              exact bI_t (all4 (fun j hj => by have := h j hj; unfold wiP at this; rw [if_neg hf] at this; exact this))
          · by_cases hf : f = 0
            · rw [if_pos hf]
              exact bI_f (fun z => h2 (by unfold wiP; rw [if_pos hf]; exact all4' z j h1))
            · rw [if_neg hf]
              exact bI_f (fun z => h2 (by unfold wiP; rw [if_neg hf]; exact all4' z j h1))
        refine ⟨?_, ⟨_, rfl⟩, fun _ => rfl, fin⟩
        rcases hb with ⟨rfl, h⟩ | ⟨rfl, j, h1, h2⟩
        · exact Or.inr rfl
        · exact Or.inl rfl
      · have k : ¬ nI 4 ≤ nI i := k
        have hi2 : i < 4 := by
          rcases Nat.lt_or_ge i 4 with z | z
          · exact z
          · exact absurd (nI_le z (by omega)) k
        have hcl : (nI i).toNatClampNeg = i := nI_clamp (by omega)
        have nx : (9, Value.int (nI i + 1)) = (9, Value.int (nI (i + 1))) := by rw [nI_1]
        conv => whnf
        refine ⟨fun kb => ?_, fun kb => ?_⟩
        · obtain ⟨rfl, j, h1, h2⟩ : b = 0 ∧ ∃ j, j < i ∧ ¬ wiP A B C x y d f j := by
            rcases hb with h | h
            · exact absurd (h.1.symm.trans kb) (by decide)
            · exact h
          conv => whnf
          rintro _ rfl
          conv => whnf
          rintro _ rfl
          conv => whnf
          refine ⟨4 - (i + 1), by omega, i + 1, 0, by omega, Or.inr ⟨rfl, j, by omega, h2⟩, ?_, rfl, rfl⟩
          show [_, _, _, _, _, _, (9, Value.int (nI i + 1))] = _
          rw [nx]
        · obtain ⟨rfl, h1⟩ : b = 1 ∧ ∀ j, j < i → wiP A B C x y d f j := by
            rcases hb with h | h
            · exact h
            · exact absurd h.1 kb
          conv => whnf
          refine ⟨nI4 i hi2, ?_⟩
          conv => whnf
          refine ⟨nI4 i hi2, ?_⟩
          conv => whnf
          refine ⟨fun kf => ?_, fun kf => ?_⟩
          · conv => whnf
            refine ⟨nI4 i hi2, ?_⟩
            conv => whnf
            refine ⟨fun k2 => ?_, fun k2 => ?_⟩
            · have k2 : ¬ C (nI i).toNatClampNeg * d ≤ A (nI i).toNatClampNeg * x + B (nI i).toNatClampNeg * y := (i64_not_le _ _).mpr ((lg_lt0 _ _).mp k2)
              rw [hcl] at k2
              conv => whnf
              rintro _ rfl
              conv => whnf
              rintro _ rfl
              conv => whnf
              refine ⟨4 - (i + 1), by omega, i + 1, 0, by omega, Or.inr ⟨rfl, i, by omega, fun z => k2 (by unfold wiP at z; rw [if_pos kf] at z; exact z)⟩, ?_, rfl, rfl⟩
              show [_, _, _, _, _, _, (9, Value.int (nI i + 1))] = _
              rw [nx]
            · have k2 : C (nI i).toNatClampNeg * d ≤ A (nI i).toNatClampNeg * x + B (nI i).toNatClampNeg * y := (i64_not_lt _ _).mp (fun z => k2 ((lg_lt0 _ _).mpr z))
              rw [hcl] at k2
              conv => whnf
              rintro _ rfl
              conv => whnf
              rintro _ rfl
              conv => whnf
              refine ⟨4 - (i + 1), by omega, i + 1, 1, by omega, Or.inl ⟨rfl, lt_s h1 (by unfold wiP; rw [if_pos kf]; exact k2)⟩, ?_, rfl, rfl⟩
              show [_, _, _, _, _, _, (9, Value.int (nI i + 1))] = _
              rw [nx]
          · conv => whnf
            refine ⟨fun k2 => ?_, fun k2 => ?_⟩
            · have k2 : ¬ 0 ≤ A (nI i).toNatClampNeg * x + B (nI i).toNatClampNeg * y := (i64_not_le _ _).mpr ((lg_lt0 _ _).mp k2)
              rw [hcl] at k2
              conv => whnf
              rintro _ rfl
              conv => whnf
              rintro _ rfl
              conv => whnf
              refine ⟨4 - (i + 1), by omega, i + 1, 0, by omega, Or.inr ⟨rfl, i, by omega, fun z => k2 (by unfold wiP at z; rw [if_neg kf] at z; exact z)⟩, ?_, rfl, rfl⟩
              show [_, _, _, _, _, _, (9, Value.int (nI i + 1))] = _
              rw [nx]
            · have k2 : 0 ≤ A (nI i).toNatClampNeg * x + B (nI i).toNatClampNeg * y := (i64_not_lt _ _).mp (fun z => k2 ((lg_lt0 _ _).mpr z))
              rw [hcl] at k2
              conv => whnf
              rintro _ rfl
              conv => whnf
              rintro _ rfl
              conv => whnf
              refine ⟨4 - (i + 1), by omega, i + 1, 1, by omega, Or.inl ⟨rfl, lt_s h1 (by unfold wiP; rw [if_neg kf]; exact k2)⟩, ?_, rfl, rfl⟩
              show [_, _, _, _, _, _, (9, Value.int (nI i + 1))] = _
              rw [nx]
    · exact absurd hq List.not_mem_nil
  · conv => whnf
    rintro _ rfl
    conv => whnf
    rintro _ rfl
    conv => whnf
    refine ⟨4, by omega, 0, 1, by omega, Or.inl ⟨rfl, lt_0⟩, rfl, rfl, rfl⟩
theorem rv_X7_isWithin : rz_Rv yX7_isWithin.cls ce_X7_isWithin := fun av w h => by
  obtain ⟨_, _, _, _, _, _, _, _, _, _, _, _, _, _, _, _, _, _, _, rfl, rfl, _⟩ := h
  exact ⟨_, _, _, _, _, _, rfl, rfl, rfl⟩
theorem cn_X7_isWithin (l : Launch) : rz_Con l yX7_isWithin cX7_isWithin 10 (some .boolean) 0 0 0 ce_X7_isWithin := rz_con (by decide +kernel) fo_X7 (fun _ h => absurd h List.not_mem_nil) (fun _ h => absurd h List.not_mem_nil) r_X7_isWithin vc_X7_isWithin
end
section
/-! The reference's pairs, crossings. -/
abbrev wMo2 (o : rz_C) (px py sg : Nat → Int32) : rz_W := [(50, o), (51, ri 6 px), (52, ri 6 py), (57, ri 600 sg)]
abbrev mFx (px sg : Nat → Int32) (i : Nat) : Int32 := px (sg (6 * i + 0)).toNatClampNeg
abbrev paP (px py sg : Nat → Int32) (n : Nat) (x y : Int32) : Prop := okS x n ∧ okS y n ∧ sg (6 * x.toNatClampNeg + 1) = sg (6 * y.toNatClampNeg + 1) ∧ ¬ (mFx px sg x.toNatClampNeg = mFx px sg y.toNatClampNeg ∧ mFx py sg x.toNatClampNeg = mFx py sg y.toNatClampNeg)
def ce_X7_isPair : rz_K := (3, [50, 51, 52, 57], 0, true, fun av w => ∃ (px py sg : Nat → Int32) (th po re nw pl tr bo pn ca sp co x y : Int32) (n : Nat), av = [.ref 50, .int x, .int y] ∧ w = wMo2 (oMo th po re nw (nI n) pl tr bo pn ca sp co) px py sg ∧ n ≤ 100 ∧ ∀ i, i < n → vp_in (sg (6 * i + 0)) 6, fun av w o _ => ∀ n, rF w 50 10 = nI n → n ≤ 100 → rR o = bI (paP (rI w 51) (rI w 52) (rI w 57) n (rA av 1) (rA av 2)))
def cl_X7_isPair : List (Nat × rz_K) := [(87, ce_X7_isIn)]
def cv_X7_isPair : List (Nat × rz_K) := [(119, ce_X7_of)]
set_option maxHeartbeats 4000000 in
theorem vc_X7_isPair : rz_VC k_X7_isPair fl_X7 cl_X7_isPair cv_X7_isPair s_X7_isPair true 5 ce_X7_isPair := by
  intro av w hlen hk hpre
  obtain ⟨px, py, sg, th, po, re, nw, pl, tr, bo, pn, ca, sp, co, x, y, n, rfl, rfl, hn, hsg⟩ := hpre
  refine ⟨Nat.le_of_ble_eq_true rfl, [], 60, 0, fun q h => absurd h List.not_mem_nil, ?_⟩
  have fin : ∀ v : Int32, v = bI (paP px py sg n x y) → (v = 0 ∨ v = 1) ∧ rz_end ce_X7_isPair [.ref 50, .int x, .int y] (wMo2 (oMo th po re nw (nI n) pl tr bo pn ca sp co) px py sg) (some (.int v)) (wMo2 (oMo th po re nw (nI n) pl tr bo pn ca sp co) px py sg) := by
    intro v hv
    refine ⟨by rw [hv]; exact bI_01 _, ⟨_, rfl⟩, fun _ => rfl, ?_⟩
    intro n' e h
    have e : n = n' := nI_inj (by omega) (by omega) e
    subst e
    exact hv
  conv => whnf
  refine ⟨⟨_, _, _, rfl, rfl, trivial⟩, ?_⟩
  intro r hr
  obtain rfl : r = bI (okS x n) := hr
  conv => whnf
  refine ⟨fun h0 => ?_, fun h0 => ?_⟩
  · exact fin _ (bI_f (fun z => bI_0 h0 z.1))
  · conv => whnf
    refine ⟨⟨_, _, _, rfl, rfl, trivial⟩, ?_⟩
    intro r hr
    obtain rfl : r = bI (okS y n) := hr
    conv => whnf
    refine ⟨fun h1 => ?_, fun h1 => ?_⟩
    · exact fin _ (bI_f (fun z => bI_0 h1 z.2.1))
    · have ok0 := bI_n h0
      have ok1 := bI_n h1
      obtain ⟨i, hi, rfl⟩ := okS_nat ok0 (by omega)
      obtain ⟨j, hj, rfl⟩ := okS_nat ok1 (by omega)
      have hci : (nI i).toNatClampNeg = i := nI_clamp (by omega)
      have hcj : (nI j).toNatClampNeg = j := nI_clamp (by omega)
      have hP : paP px py sg n (nI i) (nI j) ↔ (okS (nI i) n ∧ okS (nI j) n ∧ sg (6 * i + 1) = sg (6 * j + 1) ∧ ¬ (mFx px sg i = mFx px sg j ∧ mFx py sg i = mFx py sg j)) := by rw [paP, hci, hcj]
      conv => whnf
      refine ⟨⟨sg, th, po, re, nw, nI n, pl, tr, bo, pn, ca, sp, co, i, 1, rfl, rfl, by omega, by omega⟩, ?_⟩
      intro r hr
      have hr : r = sg (6 * i + 1) := hr i 1 rfl rfl (by omega) (by omega)
      subst hr
      conv => whnf
      refine ⟨⟨sg, th, po, re, nw, nI n, pl, tr, bo, pn, ca, sp, co, j, 1, rfl, rfl, by omega, by omega⟩, ?_⟩
      intro r hr
      have hr : r = sg (6 * j + 1) := hr j 1 rfl rfl (by omega) (by omega)
      subst hr
      conv => whnf
      refine ⟨fun h2 => ?_, fun h2 => ?_⟩
      · conv => whnf
        refine ⟨⟨sg, th, po, re, nw, nI n, pl, tr, bo, pn, ca, sp, co, i, 0, rfl, rfl, by omega, by omega⟩, ?_⟩
        intro r hr
        have hr : r = sg (6 * i + 0) := hr i 0 rfl rfl (by omega) (by omega)
        subst hr
        conv => whnf
        rintro _ rfl
        conv => whnf
        refine ⟨⟨sg, th, po, re, nw, nI n, pl, tr, bo, pn, ca, sp, co, j, 0, rfl, rfl, by omega, by omega⟩, ?_⟩
        intro r hr
        have hr : r = sg (6 * j + 0) := hr j 0 rfl rfl (by omega) (by omega)
        subst hr
        conv => whnf
        rintro _ rfl
        have hvi := hsg i hi
        have hvj := hsg j hj
        conv => whnf
        refine ⟨hvi, ?_⟩
        conv => whnf
        refine ⟨hvj, ?_⟩
        conv => whnf
        refine ⟨fun h3 => ?_, fun h3 => ?_⟩
        · conv => whnf
          refine ⟨hvi, ?_⟩
          conv => whnf
          refine ⟨hvj, ?_⟩
          conv => whnf
          refine ⟨fun h4 => ?_, fun h4 => ?_⟩
          · exact fin _ (bI_f (fun z => (hP.mp z).2.2.2 ⟨h3, h4⟩))
          · exact fin _ (bI_t (hP.mpr ⟨ok0, ok1, h2, fun z => h4 z.2⟩))
        · exact fin _ (bI_t (hP.mpr ⟨ok0, ok1, h2, fun z => h3 z.1⟩))
      · exact fin _ (bI_f (fun z => h2 (hP.mp z).2.2.1))
theorem rv_X7_isPair : rz_Rv yX7_isPair.cls ce_X7_isPair := fun av w h => by
  obtain ⟨_, _, _, _, _, _, _, _, _, _, _, _, _, _, _, _, _, rfl, rfl, _⟩ := h
  exact ⟨_, _, _, _, _, _, rfl, rfl, rfl⟩
theorem cn_X7_isPair (l : Launch) : rz_Con l yX7_isPair cX7_isPair 5 (some .boolean) 1 0 0 ce_X7_isPair := rz_con (by decide +kernel) fo_X7 (by
  intro q hq
  rcases List.mem_cons.mp hq with rfl | hq
  · exact rz_callS (cn_X7_isIn l) (by decide +kernel) ⟨Nat.le_of_ble_eq_true rfl, Nat.le_of_ble_eq_true rfl⟩ m_X7_isIn t_X7_isIn n_X7_87
  exact absurd hq List.not_mem_nil) (by
  intro q hq
  rcases List.mem_cons.mp hq with rfl | hq
  · exact rz_callV (cn_X7_of l) (by decide +kernel) ⟨Nat.le_of_ble_eq_true rfl, Nat.le_of_ble_eq_true rfl⟩ m_X7_of rfl i_X7_of v_X7_of rv_X7_of n_X7_119
  exact absurd hq List.not_mem_nil) r_X7_isPair vc_X7_isPair
abbrev wMc (o : rz_C) (X Y D : Nat → Int64) : rz_W := [(50, o), (70, rl 8 X), (71, rl 8 Y), (72, rl 8 D)]
def ce_X7_compare : rz_K := (5, [50, 70, 71, 72], 0, true, fun av w => ∃ (X Y D : Nat → Int64) (th po re nw si pl tr bo pn ca sp co : Int32) (k : Nat) (x y d : Int64), av = [.ref 50, .int (nI k), .long x, .long y, .long d] ∧ w = wMc (oMo th po re nw si pl tr bo pn ca sp co) X Y D ∧ k < 8, fun av w o _ => ∀ k, rA av 1 = nI k → k < 8 → rR o = orF (rJ w 70) (rJ w 72) (rJ w 71) (rJ w 72) k (rB av 2) (rB av 3) (rB av 4))
def cl_X7_compare : List (Nat × rz_K) := [(145, ce_J13_compare_74951)]
def cv_X7_compare : List (Nat × rz_K) := []
theorem vc_X7_compare : rz_VC k_X7_compare fl_X7 cl_X7_compare cv_X7_compare s_X7_compare false 9 ce_X7_compare := by
  intro av w hlen hk hpre
  obtain ⟨X, Y, D, th, po, re, nw, si, pl, tr, bo, pn, ca, sp, co, k, x, y, d, rfl, rfl, hk8⟩ := hpre
  refine ⟨Nat.le_of_ble_eq_true rfl, [], 60, 0, fun q h => absurd h List.not_mem_nil, ?_⟩
  have hv : vp_in (nI k) 8 := vp_in_nI hk8 (by omega)
  have hc : (nI k).toNatClampNeg = k := nI_clamp (by omega)
  have fin : ∀ v : Int32, v = orF X D Y D k x y d → rz_end ce_X7_compare [.ref 50, .int (nI k), .long x, .long y, .long d] (wMc (oMo th po re nw si pl tr bo pn ca sp co) X Y D) (some (.int v)) (wMc (oMo th po re nw si pl tr bo pn ca sp co) X Y D) := by
    intro v hv
    refine ⟨⟨_, rfl⟩, fun _ => rfl, ?_⟩
    intro k' e h
    have e : k = k' := nI_inj (by omega) (by omega) e
    subst e
    exact hv
  conv => whnf
  refine ⟨hv, ?_⟩
  conv => whnf
  refine ⟨hv, ?_⟩
  conv => whnf
  refine ⟨⟨_, _, rfl, rfl, trivial⟩, ?_⟩
  intro r hr
  have hr : r = lg_cmp (X (nI k).toNatClampNeg * d) (x * D (nI k).toNatClampNeg) := hr
  rw [hc] at hr
  subst hr
  conv => whnf
  rintro _ rfl
  conv => whnf
  refine ⟨fun h => ?_, fun h => ?_⟩
  · conv => whnf
    refine ⟨hv, ?_⟩
    conv => whnf
    refine ⟨hv, ?_⟩
    conv => whnf
    refine ⟨⟨_, _, rfl, rfl, trivial⟩, ?_⟩
    intro r hr
    have hr : r = lg_cmp (Y (nI k).toNatClampNeg * d) (y * D (nI k).toNatClampNeg) := hr
    rw [hc] at hr
    subst hr
    conv => whnf
    exact fin _ (by rw [orF, if_neg (fun z => z h)])
  · exact fin _ (by rw [orF, if_pos h])
theorem rv_X7_compare : rz_Rv yX7_compare.cls ce_X7_compare := fun av w h => by
  obtain ⟨_, _, _, _, _, _, _, _, _, _, _, _, _, _, _, _, _, _, _, rfl, rfl, _⟩ := h
  exact ⟨_, _, _, _, _, _, rfl, rfl, rfl⟩
theorem cn_X7_compare (l : Launch) : rz_Con l yX7_compare cX7_compare 9 (some .int) 1 0 0 ce_X7_compare := rz_con (by decide +kernel) fo_X7 (by
  intro q hq
  rcases List.mem_cons.mp hq with rfl | hq
  · exact rz_callS (cn_J13_compare_74951 l) (by decide +kernel) ⟨Nat.le_of_ble_eq_true rfl, Nat.le_of_ble_eq_true rfl⟩ m_J13_compare_74951 t_J13_compare_74951 n_X7_145
  exact absurd hq List.not_mem_nil) (fun _ h => absurd h List.not_mem_nil) r_X7_compare vc_X7_compare
/-- a crossing put among n ones, as it is -/
def minR (X Y D : Nat → Int64) (n : Nat) (x y d : Int64) (X' Y' D' : Nat → Int64) (n' : Nat) : Prop := ∃ t, t ≤ n ∧ (∀ k, k < t → orF X D Y D k x y d < 0) ∧ (t < n → ¬ orF X D Y D t x y d < 0) ∧
  if t < n ∧ orF X D Y D t x y d = 0 then X' = X ∧ Y' = Y ∧ D' = D ∧ n' = n else X' = insA X n t x ∧ Y' = insA Y n t y ∧ D' = insA D n t d ∧ n' = n + 1
def mcR (a b c : Nat → Int64) (i j : Nat) (X Y D : Nat → Int64) (n : Nat) (X' Y' D' : Nat → Int64) (n' : Nat) : Prop :=
  if crD a b i j = 0 ∨ ¬ inA a b c (sgn (crD a b i j) (crX b c i j)) (sgn (crD a b i j) (crY a c i j)) (sgn (crD a b i j) (crD a b i j)) then X' = X ∧ Y' = Y ∧ D' = D ∧ n' = n else minR X Y D n (sgn (crD a b i j) (crX b c i j)) (sgn (crD a b i j) (crY a c i j)) (sgn (crD a b i j) (crD a b i j)) X' Y' D' n'
abbrev wMx (o : rz_C) (A B C X Y D : Nat → Int64) : rz_W := [(50, o), (67, rl 4 A), (68, rl 4 B), (69, rl 4 C), (70, rl 8 X), (71, rl 8 Y), (72, rl 8 D)]
abbrev kMx : List Nat := [50, 67, 68, 69, 70, 71, 72]
def ce_X7_cross : rz_K := (3, kMx, 2, false, fun av w => ∃ (A B C X Y D : Nat → Int64) (th po re nw si pl tr bo pn ca sp : Int32) (n i j : Nat), av = [.ref 50, .int (nI i), .int (nI j)] ∧ w = wMx (oMo th po re nw si pl tr bo pn ca sp (nI n)) A B C X Y D ∧ n < 6 ∧ i < 4 ∧ j < 4, fun av w _ w' => ∀ n i j, rF w 50 33 = nI n → n < 6 → rA av 1 = nI i → i < 4 → rA av 2 = nI j → j < 4 → ∃ X' Y' D' n', mcR (rJ w 67) (rJ w 68) (rJ w 69) i j (rJ w 70) (rJ w 71) (rJ w 72) n X' Y' D' n' ∧ w' = rz_set (rz_set (rz_set (mset w 33 (nI n')) 70 (rl 8 X')) 71 (rl 8 Y')) 72 (rl 8 D'))
def cl_X7_cross : List (Nat × rz_K) := []
def cv_X7_cross : List (Nat × rz_K) := [(137, ce_X7_isWithin), (141, ce_X7_compare)]
set_option maxHeartbeats 4000000 in
theorem vc_X7_cross : rz_VC k_X7_cross fl_X7 cl_X7_cross cv_X7_cross s_X7_cross false 11 ce_X7_cross := by
  intro av w hlen hk hpre
  obtain ⟨a, b, c, tx, ty, ly, th, po, re, nw, si, pl, tr, bo, pn, ca, sp, n, i, j, rfl, rfl, hn, hi, hj⟩ := hpre
  have fin : ∀ tx' ty' ly' n', mcR a b c i j tx ty ly n tx' ty' ly' n' → rz_end ce_X7_cross [.ref 50, .int (nI i), .int (nI j)] (wMx (oMo th po re nw si pl tr bo pn ca sp (nI n)) a b c tx ty ly) none (wMx (oMo th po re nw si pl tr bo pn ca sp (nI n')) a b c tx' ty' ly') := by
    intro tx' ty' ly' n' hr
    refine ⟨rfl, fun z => (by cases z), ?_⟩
    intro m i' j' e hm e2 hi' e3 hj'
    have e : n = m := nI_inj (by omega) (by omega) e
    have e2 : i = i' := nI_inj (by omega) (by omega) e2
    have e3 : j = j' := nI_inj (by omega) (by omega) e3
    subst e e2 e3
    exact ⟨tx', ty', ly', n', hr, rfl⟩
  have hvi := nI4 i hi
  have hvj := nI4 j hj
  have hci : (nI i).toNatClampNeg = i := nI_clamp (by omega)
  have hcj : (nI j).toNatClampNeg = j := nI_clamp (by omega)
  generalize hXX : sgn (crD a b i j) (crX b c i j) = x
  generalize hYY : sgn (crD a b i j) (crY a c i j) = y
  generalize hDD : sgn (crD a b i j) (crD a b i j) = d
  have fin2 : ∀ tx' ty' ly' n', ¬ crD a b i j = 0 → inA a b c x y d → minR tx ty ly n x y d tx' ty' ly' n' → rz_end ce_X7_cross [.ref 50, .int (nI i), .int (nI j)] (wMx (oMo th po re nw si pl tr bo pn ca sp (nI n)) a b c tx ty ly) none (wMx (oMo th po re nw si pl tr bo pn ca sp (nI n')) a b c tx' ty' ly') := by
    intro tx' ty' ly' n' h1 h2 h3
    refine fin _ _ _ _ ?_
    unfold mcR
    rw [hXX, hYY, hDD]
    exact if_no (fun z => z.elim h1 (fun y => y h2)) h3
  have ord : ∀ (k : Nat) (r : Int32), k < 8 → ce_X7_compare.2.2.2.2.2 [.ref 50, .int (nI k), .long x, .long y, .long d] (wMc (oMo th po re nw si pl tr bo pn ca sp (nI n)) tx ty ly) (some (.int r)) (wMc (oMo th po re nw si pl tr bo pn ca sp (nI n)) tx ty ly) → r = orF tx ly ty ly k x y d := fun k r hk hr => hr k rfl hk
  refine ⟨Nat.le_of_ble_eq_true rfl, [
    (112, [0, 1, 2, 3, 5, 7], fun z lv w' => ¬ crD a b i j = 0 ∧ lv = [(0, .ref 50), (1, .int (nI i)), (2, .int (nI j)), (3, .long d), (5, .long x), (7, .long y)] ∧ w' = wMx (oMo th po re nw si pl tr bo pn ca sp (nI n)) a b c tx ty ly ∧ z = 300),
    (129, [0, 1, 2, 3, 5, 7, 9], fun z lv w' => ∃ t : Nat, ¬ crD a b i j = 0 ∧ inA a b c x y d ∧ t ≤ n ∧ (∀ k, k < t → orF tx ly ty ly k x y d < 0) ∧ lv = [(0, .ref 50), (1, .int (nI i)), (2, .int (nI j)), (3, .long d), (5, .long x), (7, .long y), (9, .int (nI t))] ∧ w' = wMx (oMo th po re nw si pl tr bo pn ca sp (nI n)) a b c tx ty ly ∧ z = 100 + (n - t)),
    (158, [0, 1, 2, 3, 5, 7, 9], fun z lv w' => ∃ t : Nat, ¬ crD a b i j = 0 ∧ inA a b c x y d ∧ t ≤ n ∧ (∀ k, k < t → orF tx ly ty ly k x y d < 0) ∧ (t < n → ¬ orF tx ly ty ly t x y d < 0) ∧ lv = [(0, .ref 50), (1, .int (nI i)), (2, .int (nI j)), (3, .long d), (5, .long x), (7, .long y), (9, .int (nI t))] ∧ w' = wMx (oMo th po re nw si pl tr bo pn ca sp (nI n)) a b c tx ty ly ∧ z = 50),
    (188, [0, 1, 2, 3, 5, 7, 9, 10], fun z lv w' => ∃ t q : Nat, ¬ crD a b i j = 0 ∧ inA a b c x y d ∧ t ≤ q ∧ q ≤ n ∧ (∀ k, k < t → orF tx ly ty ly k x y d < 0) ∧ (t < n → ¬ orF tx ly ty ly t x y d < 0) ∧ ¬ (t < n ∧ orF tx ly ty ly t x y d = 0) ∧ lv = [(0, .ref 50), (1, .int (nI i)), (2, .int (nI j)), (3, .long d), (5, .long x), (7, .long y), (9, .int (nI t)), (10, .int (nI q))] ∧ w' = wMx (oMo th po re nw si pl tr bo pn ca sp (nI n)) a b c (shA tx n q) (shA ty n q) (shA ly n q) ∧ z = q - t)], 150, 400, ?_, ?_⟩
  · intro y1 hq z lv w' hJ
    rcases List.mem_cons.mp hq with rfl | hq
    · obtain ⟨hne, rfl, rfl, rfl⟩ := hJ
      conv => whnf
      refine ⟨⟨a, b, c, th, po, re, nw, si, pl, tr, bo, pn, ca, sp, nI n, x, y, d, 0, rfl, rfl, trivial⟩, ?_⟩
      intro r hr
      obtain rfl : r = bI (inA a b c x y d) := hr
      conv => whnf
      refine ⟨fun h => ?_, fun h => ?_⟩
      · refine fin tx ty ly n ?_
        unfold mcR
        rw [hXX, hYY, hDD]
        exact if_yes (Or.inr (bI_0 h)) ⟨rfl, rfl, rfl, rfl⟩
      · conv => whnf
        rintro _ rfl
        conv => whnf
        refine ⟨100 + (n - 0), by omega, 0, hne, bI_n h, by omega, lt_0, rfl, rfl, rfl⟩
    rcases List.mem_cons.mp hq with rfl | hq
    · obtain ⟨t, hne, hin, ht, hall, rfl, rfl, rfl⟩ := hJ
      conv => whnf
      refine ⟨fun k => ?_, fun k => ?_⟩
      · have e : t = n := by
          have := (nI_leI (by omega) (by omega)).mp k
          omega
        subst e
        conv => whnf
        refine ⟨50, by omega, t, hne, hin, ht, hall, fun z => absurd z (by omega), rfl, rfl, rfl⟩
      · have ht2 : t < n := by
          rcases Nat.lt_or_ge t n with z | z
          · exact z
          · exact absurd (nI_le z (by omega)) k
        conv => whnf
        refine ⟨⟨tx, ty, ly, th, po, re, nw, si, pl, tr, bo, pn, ca, sp, nI n, t, x, y, d, rfl, rfl, by omega⟩, ?_⟩
        intro r hr
        obtain rfl := ord t r (by omega) hr
        conv => whnf
        refine ⟨fun k2 => ?_, fun k2 => ?_⟩
        · conv => whnf
          refine ⟨50, by omega, t, hne, hin, ht, hall, fun _ => (i32_not_lt _ _).mpr k2, rfl, rfl, rfl⟩
        · conv => whnf
          rintro _ rfl
          conv => whnf
          refine ⟨100 + (n - (t + 1)), by omega, t + 1, hne, hin, by omega, lt_s hall ((i32_not_le _ _).mp k2), ?_, rfl, rfl⟩
          show [_, _, _, _, _, _, (9, Value.int (nI t + 1))] = _
          rw [nI_1]
    rcases List.mem_cons.mp hq with rfl | hq
    · obtain ⟨t, hne, hin, ht, hall, hno, rfl, rfl, rfl⟩ := hJ
      have e3 : wMx (oMo th po re nw si pl tr bo pn ca sp (nI n)) a b c tx ty ly = wMx (oMo th po re nw si pl tr bo pn ca sp (nI n)) a b c (shA tx n n) (shA ty n n) (shA ly n n) := by rw [shA_n, shA_n, shA_n]
      conv => whnf
      refine ⟨fun k => ?_, fun k => ?_⟩
      · have k := (nI_leI (by omega) (by omega)).mp k
        conv => whnf
        rintro _ rfl
        conv => whnf
        refine ⟨n - t, by omega, t, n, hne, hin, ht, Nat.le_refl n, hall, hno, fun z => absurd z.1 (by omega), rfl, e3, rfl⟩
      · have ht2 : t < n := by
          rcases Nat.lt_or_ge t n with z | z
          · exact z
          · exact absurd (nI_le z (by omega)) k
        conv => whnf
        refine ⟨⟨tx, ty, ly, th, po, re, nw, si, pl, tr, bo, pn, ca, sp, nI n, t, x, y, d, rfl, rfl, by omega⟩, ?_⟩
        intro r hr
        obtain rfl := ord t r (by omega) hr
        conv => whnf
        refine ⟨fun k2 => ?_, fun k2 => ?_⟩
        · exact fin2 tx ty ly n hne hin ⟨t, ht, hall, hno, if_yes ⟨ht2, k2⟩ ⟨rfl, rfl, rfl, rfl⟩⟩
        · conv => whnf
          rintro _ rfl
          conv => whnf
          refine ⟨n - t, by omega, t, n, hne, hin, ht, Nat.le_refl n, hall, hno, fun z => k2 z.2, rfl, e3, rfl⟩
    rcases List.mem_cons.mp hq with rfl | hq
    · obtain ⟨t, i2, hne, hin, hti, hin2, hall, hno, hnz, rfl, rfl, rfl⟩ := hJ
      have hvt : vp_in (nI t) 8 := vp_in_nI (by omega) (by omega)
      have hct : (nI t).toNatClampNeg = t := nI_clamp (by omega)
      conv => whnf
      refine ⟨fun k => ?_, fun k => ?_⟩
      · have k := (nI_leI (by omega) (by omega)).mp k
        have e : i2 = t := by omega
        subst e
        conv => whnf
        refine ⟨hvt, ?_⟩
        conv => whnf
        refine ⟨hvt, ?_⟩
        conv => whnf
        refine ⟨hvt, ?_⟩
        conv => whnf
        have res := fin2 _ _ _ _ hne hin ⟨i2, by omega, hall, hno, if_no hnz ⟨rfl, rfl, rfl, rfl⟩⟩
        rw [← shA_ins, ← shA_ins, ← shA_ins, ← nI_1] at res
        have hw : wMx (oMo th po re nw si pl tr bo pn ca sp (nI n + 1)) a b c (vp_updL (shA tx n i2) (nI i2).toNatClampNeg x) (vp_updL (shA ty n i2) (nI i2).toNatClampNeg y) (vp_updL (shA ly n i2) (nI i2).toNatClampNeg d) = wMx (oMo th po re nw si pl tr bo pn ca sp (nI n + 1)) a b c (vp_updL (shA tx n i2) i2 x) (vp_updL (shA ty n i2) i2 y) (vp_updL (shA ly n i2) i2 d) := by rw [hct]
        rw [← hw] at res
        exact res
      · have hlt : t < i2 := by
          rcases Nat.lt_or_ge t i2 with z | z
          · exact z
          · exact absurd (nI_le z (by omega)) k
        obtain ⟨q, rfl⟩ : ∃ q, i2 = q + 1 := ⟨i2 - 1, by omega⟩
        have hp : nI (q + 1) - 1 = nI q := nI_pred q
        have hv1 : vp_in (nI (q + 1)) 8 := vp_in_nI (by omega) (by omega)
        have hv0 : vp_in (nI (q + 1) - 1) 8 := by rw [hp]; exact vp_in_nI (by omega) (by omega)
        have hc1 : (nI (q + 1)).toNatClampNeg = q + 1 := nI_clamp (by omega)
        have hc0 : (nI (q + 1) - 1).toNatClampNeg = q := by rw [hp]; exact nI_clamp (by omega)
        conv => whnf
        refine ⟨hv0, ?_⟩
        conv => whnf
        refine ⟨hv1, ?_⟩
        conv => whnf
        refine ⟨hv0, ?_⟩
        conv => whnf
        refine ⟨hv1, ?_⟩
        conv => whnf
        refine ⟨hv0, ?_⟩
        conv => whnf
        refine ⟨hv1, ?_⟩
        conv => whnf
        rintro _ rfl
        conv => whnf
        refine ⟨q - t, by omega, t, q, hne, hin, by omega, by omega, hall, hno, hnz, ?_, ?_, rfl⟩
        · show [_, _, _, _, _, _, _, (10, Value.int (nI (q + 1) + (-1)))] = _
          rw [pk_m1]
        · have step : ∀ f : Nat → Int64, vp_updL (shA f n (q + 1)) (nI (q + 1)).toNatClampNeg (shA f n (q + 1) (nI (q + 1) - 1).toNatClampNeg) = shA f n q := fun f => by rw [hc1, hc0]; exact shA_s f (by omega)
          show wMx (oMo th po re nw si pl tr bo pn ca sp (nI n)) a b c (vp_updL (shA tx n (q + 1)) (nI (q + 1)).toNatClampNeg (shA tx n (q + 1) (nI (q + 1) - 1).toNatClampNeg)) (vp_updL (shA ty n (q + 1)) (nI (q + 1)).toNatClampNeg (shA ty n (q + 1) (nI (q + 1) - 1).toNatClampNeg)) (vp_updL (shA ly n (q + 1)) (nI (q + 1)).toNatClampNeg (shA ly n (q + 1) (nI (q + 1) - 1).toNatClampNeg)) = _
          rw [step, step, step]
    · exact absurd hq List.not_mem_nil
  · conv => whnf
    refine ⟨hvi, ?_⟩
    conv => whnf
    refine ⟨hvj, ?_⟩
    conv => whnf
    refine ⟨hvj, ?_⟩
    conv => whnf
    refine ⟨hvi, ?_⟩
    conv => whnf
    intro d0 ed0
    have ed : d0 = crD a b i j := by
      rw [ed0]
      show a (nI i).toNatClampNeg * b (nI j).toNatClampNeg - a (nI j).toNatClampNeg * b (nI i).toNatClampNeg = _
      rw [hci, hcj]
    conv => whnf
    refine ⟨fun h => ?_, fun h => ?_⟩
    · have h : d0 = 0 := (lg_eq0 d0 0).mp h
      refine fin tx ty ly n ?_
      exact if_yes (Or.inl (by rw [← ed]; exact h)) ⟨rfl, rfl, rfl, rfl⟩
    · have h : ¬ d0 = 0 := fun z => h ((lg_eq0 d0 0).mpr z)
      have h' : ¬ crD a b i j = 0 := by rw [← ed]; exact h
      conv => whnf
      refine ⟨hvi, ?_⟩
      conv => whnf
      refine ⟨hvj, ?_⟩
      conv => whnf
      refine ⟨hvj, ?_⟩
      conv => whnf
      refine ⟨hvi, ?_⟩
      conv => whnf
      intro xr exr
      have hx1 : xr = crX b c i j := by
        rw [exr]
        show c (nI i).toNatClampNeg * b (nI j).toNatClampNeg - c (nI j).toNatClampNeg * b (nI i).toNatClampNeg = _
        rw [hci, hcj]
      conv => whnf
      refine ⟨hvi, ?_⟩
      conv => whnf
      refine ⟨hvj, ?_⟩
      conv => whnf
      refine ⟨hvj, ?_⟩
      conv => whnf
      refine ⟨hvi, ?_⟩
      conv => whnf
      intro yr eyr
      have hy1 : yr = crY a c i j := by
        rw [eyr]
        show a (nI i).toNatClampNeg * c (nI j).toNatClampNeg - a (nI j).toNatClampNeg * c (nI i).toNatClampNeg = _
        rw [hci, hcj]
      conv => whnf
      refine ⟨fun h2 => ?_, fun h2 => ?_⟩
      · have h2 : ¬ d0 < 0 := (i64_not_lt _ _).mpr ((lg_ge0 d0 0).mp h2)
        have q1 : xr = x := by rw [← hXX, sgn, ← ed, if_neg h2, hx1]
        have q2 : yr = y := by rw [← hYY, sgn, ← ed, if_neg h2, hy1]
        have q3 : d0 = d := by rw [← hDD, sgn, ← ed, if_neg h2]
        conv => whnf
        refine ⟨300, by omega, h', ?_, rfl, rfl⟩
        rw [← q1, ← q2, ← q3]
        rfl
      · have h2 : d0 < 0 := (i64_not_le _ _).mp (fun z => h2 ((lg_ge0 d0 0).mpr z))
        conv => whnf
        intro d1 ed1
        conv => whnf
        intro x1 ex1
        conv => whnf
        intro y1 ey1
        have q1 : x1 = x := by rw [← hXX, sgn, ← ed, if_pos h2, ex1, hx1]
        have q2 : y1 = y := by rw [← hYY, sgn, ← ed, if_pos h2, ey1, hy1]
        have q3 : d1 = d := by rw [← hDD, sgn, ← ed, if_pos h2, ed1]
        conv => whnf
        refine ⟨300, by omega, h', ?_, rfl, rfl⟩
        rw [← q1, ← q2, ← q3]
        rfl
theorem rv_X7_cross : rz_Rv yX7_cross.cls ce_X7_cross := fun av w h => by
  obtain ⟨_, _, _, _, _, _, _, _, _, _, _, _, _, _, _, _, _, _, _, _, rfl, rfl, _⟩ := h
  exact ⟨_, _, _, _, _, _, rfl, rfl, rfl⟩
theorem cn_X7_cross (l : Launch) : rz_Con l yX7_cross cX7_cross 11 none 2 0 0 ce_X7_cross := rz_con (by decide +kernel) fo_X7 (fun _ h => absurd h List.not_mem_nil) (by
  intro q hq
  rcases List.mem_cons.mp hq with rfl | hq
  · exact rz_callV (cn_X7_isWithin l) (by decide +kernel) ⟨Nat.le_of_ble_eq_true rfl, Nat.le_of_ble_eq_true rfl⟩ m_X7_isWithin rfl i_X7_isWithin v_X7_isWithin rv_X7_isWithin n_X7_137
  rcases List.mem_cons.mp hq with rfl | hq
  · exact rz_callV (cn_X7_compare l) (by decide +kernel) ⟨Nat.le_of_ble_eq_true rfl, Nat.le_of_ble_eq_true rfl⟩ m_X7_compare rfl i_X7_compare v_X7_compare rv_X7_compare n_X7_141
  exact absurd hq List.not_mem_nil) r_X7_cross vc_X7_cross
end
section
/-! The reference's meets, plot, corners. -/
theorem minR_n {X Y D : Nat → Int64} {n : Nat} {x y d : Int64} {X' Y' D' : Nat → Int64} {n' : Nat} (h : minR X Y D n x y d X' Y' D' n') : n' ≤ n + 1 := by
  obtain ⟨t, h1, h2, h3, h4⟩ := h
  by_cases z : t < n ∧ orF X D Y D t x y d = 0
  · have := (if_y h4 z).2.2.2; omega
  · have := (if_n h4 z).2.2.2; omega
theorem mcR_n {a b c : Nat → Int64} {i j : Nat} {X Y D : Nat → Int64} {n : Nat} {X' Y' D' : Nat → Int64} {n' : Nat} (h : mcR a b c i j X Y D n X' Y' D' n') : n' ≤ n + 1 := by
  unfold mcR at h
  split at h
  · have := h.2.2.2; omega
  · exact minR_n h
def fmS (a b c X Y D : Nat → Int64) : Nat → (Nat → Int64) → (Nat → Int64) → (Nat → Int64) → Nat → Prop
  | 0, t, y, m, n => t = X ∧ y = Y ∧ m = D ∧ n = 0
  | s + 1, t, y, m, n => ∃ t0 y0 m0 n0, fmS a b c X Y D s t0 y0 m0 n0 ∧ mcR a b c (pP s).1 (pP s).2 t0 y0 m0 n0 t y m n
theorem fmS_n {a b c X Y D : Nat → Int64} : ∀ {s : Nat} {t y m : Nat → Int64} {n : Nat}, fmS a b c X Y D s t y m n → n ≤ s
  | 0, _, _, _, _, h => by have := h.2.2.2; omega
  | s + 1, _, _, _, _, h => by
    obtain ⟨t0, y0, m0, n0, h1, h2⟩ := h
    have := fmS_n h1
    have := mcR_n h2
    omega
def eiM (i j e : Nat) : Nat := if e < 2 then i else j
def exM (sg : Nat → Int32) (i j e : Nat) : Int64 := (sg (6 * eiM i j e + (2 + 2 * (e % 2)))).toInt64
def eyM (sg : Nat → Int32) (i j e : Nat) : Int64 := (sg (6 * eiM i j e + (3 + 2 * (e % 2)))).toInt64
def mmR (px py sg : Nat → Int32) (n : Nat) (A B C X Y D : Nat → Int64) (co x y r : Int32) (A' B' C' X' Y' D' : Nat → Int64) (k : Int32) : Prop :=
  if paP px py sg n x y then
    A' = bdF (bvA sg y.toNatClampNeg) 2 (bdF (bvA sg x.toNatClampNeg) 0 A 2) 2 ∧ B' = bdF (bvB sg y.toNatClampNeg) 2 (bdF (bvB sg x.toNatClampNeg) 0 B 2) 2 ∧ C' = bdF (bvC sg px py y.toNatClampNeg) 2 (bdF (bvC sg px py x.toNatClampNeg) 0 C 2) 2 ∧ ∃ j, k = nI j ∧ fmS A' B' C' X Y D 6 X' Y' D' j ∧ r = kdF k A' B' (exM sg x.toNatClampNeg y.toNatClampNeg) (eyM sg x.toNatClampNeg y.toNatClampNeg)
  else r = -1 ∧ A' = A ∧ B' = B ∧ C' = C ∧ X' = X ∧ Y' = Y ∧ D' = D ∧ k = co
theorem mmR_1 {px py sg : Nat → Int32} {n : Nat} {A B C X Y D : Nat → Int64} {co x y r : Int32} {A' B' C' X' Y' D' : Nat → Int64} {k : Int32} (h : mmR px py sg n A B C X Y D co x y r A' B' C' X' Y' D' k) (hr : r = 1) : okS x n ∧ okS y n ∧ ∃ j, j ≤ 6 ∧ k = nI j := by
  by_cases z : paP px py sg n x y
  · obtain ⟨-, -, -, j, h1, h2, -⟩ := if_y h z
    exact ⟨z.1, z.2.1, j, fmS_n h2, h1⟩
  · have := (if_n h z).1
    rw [hr] at this
    exact absurd this (by decide)
abbrev wMq (o : rz_C) (px py sg : Nat → Int32) (A B C X Y D : Nat → Int64) : rz_W := [(50, o), (51, ri 6 px), (52, ri 6 py), (57, ri 600 sg), (67, rl 4 A), (68, rl 4 B), (69, rl 4 C), (70, rl 8 X), (71, rl 8 Y), (72, rl 8 D)]
abbrev kMq : List Nat := [50, 51, 52, 57, 67, 68, 69, 70, 71, 72]
def sMq (w : rz_W) (A B C X Y D : Nat → Int64) (k : Int32) : rz_W := rz_set (rz_set (rz_set (rz_set (rz_set (rz_set (mset w 33 k) 67 (rl 4 A)) 68 (rl 4 B)) 69 (rl 4 C)) 70 (rl 8 X)) 71 (rl 8 Y)) 72 (rl 8 D)
theorem any4 {A B : Nat → Int64} {ex ey : Nat → Int64} (e : Nat) (h : e < 4) (hr : ruA A B (ex e) (ey e)) : enA A B ex ey := by
  match e, h, hr with
  | 0, _, hr => exact Or.inl hr
  | 1, _, hr => exact Or.inr (Or.inl hr)
  | 2, _, hr => exact Or.inr (Or.inr (Or.inl hr))
  | 3, _, hr => exact Or.inr (Or.inr (Or.inr hr))
theorem none4 {A B : Nat → Int64} {ex ey : Nat → Int64} (h : ∀ e, e < 4 → ¬ ruA A B (ex e) (ey e)) : ¬ enA A B ex ey := fun z => by
  rcases z with z | z | z | z
  · exact h 0 (by omega) z
  · exact h 1 (by omega) z
  · exact h 2 (by omega) z
  · exact h 3 (by omega) z
def ce_X7_meets : rz_K := (3, kMq, 0, false, fun av w => ∃ (px py sg : Nat → Int32) (A B C X Y D : Nat → Int64) (th po re nw pl tr bo pn ca sp co x y : Int32) (n : Nat), av = [.ref 50, .int x, .int y] ∧ w = wMq (oMo th po re nw (nI n) pl tr bo pn ca sp co) px py sg A B C X Y D ∧ n ≤ 100 ∧ ∀ i, i < n → vp_in (sg (6 * i + 0)) 6, fun av w o w' => ∀ n, rF w 50 10 = nI n → n ≤ 100 → ∃ (A' B' C' X' Y' D' : Nat → Int64) (k : Int32), mmR (rI w 51) (rI w 52) (rI w 57) n (rJ w 67) (rJ w 68) (rJ w 69) (rJ w 70) (rJ w 71) (rJ w 72) (rF w 50 33) (rA av 1) (rA av 2) (rR o) A' B' C' X' Y' D' k ∧ w' = sMq w A' B' C' X' Y' D' k)
def cl_X7_meets : List (Nat × rz_K) := []
def cv_X7_meets : List (Nat × rz_K) := [(119, ce_X7_of), (124, ce_X7_isPair), (127, ce_X7_bounds), (134, ce_X7_cross), (137, ce_X7_isWithin)]
set_option maxHeartbeats 8000000 in
theorem vc_X7_meets : rz_VC k_X7_meets fl_X7 cl_X7_meets cv_X7_meets s_X7_meets false 5 ce_X7_meets := by
  intro av w hlen hk hpre
  obtain ⟨px, py, sg, A, B, C, X, Y, D, th, po, re, nw, pl, tr, bo, pn, ca, sp, co, x, y, n, rfl, rfl, hn, hsg⟩ := hpre
  by_cases ok : paP px py sg n x y
  · obtain ⟨i, hi, rfl⟩ := okS_nat ok.1 (by omega)
    obtain ⟨j, hj, rfl⟩ := okS_nat ok.2.1 (by omega)
    have hci : (nI i).toNatClampNeg = i := nI_clamp (by omega)
    have hcj : (nI j).toNatClampNeg = j := nI_clamp (by omega)
    generalize hA1 : bdF (bvA sg i) 0 A 2 = A1
    generalize hB1 : bdF (bvB sg i) 0 B 2 = B1
    generalize hC1 : bdF (bvC sg px py i) 0 C 2 = C1
    generalize hA2 : bdF (bvA sg j) 2 A1 2 = A2
    generalize hB2 : bdF (bvB sg j) 2 B1 2 = B2
    generalize hC2 : bdF (bvC sg px py j) 2 C1 2 = C2
    have fin : ∀ (t u m : Nat → Int64) (q : Nat) (v : Int32), fmS A2 B2 C2 X Y D 6 t u m q → v = kdF (nI q) A2 B2 (exM sg i j) (eyM sg i j) → rz_end ce_X7_meets [.ref 50, .int (nI i), .int (nI j)] (wMq (oMo th po re nw (nI n) pl tr bo pn ca sp co) px py sg A B C X Y D) (some (.int v)) (wMq (oMo th po re nw (nI n) pl tr bo pn ca sp (nI q)) px py sg A2 B2 C2 t u m) := by
      intro t u m q v h1 h2
      refine ⟨⟨_, rfl⟩, fun z => (by cases z), ?_⟩
      intro n' e1 g1
      have e1 : n = n' := nI_inj (by omega) (by omega) e1
      subst e1
      refine ⟨A2, B2, C2, t, u, m, nI q, if_yes ok ⟨?_, ?_, ?_, q, rfl, h1, ?_⟩, rfl⟩
      · show A2 = bdF (bvA sg (nI j).toNatClampNeg) 2 (bdF (bvA sg (nI i).toNatClampNeg) 0 A 2) 2
        rw [hci, hcj, hA1, hA2]
      · show B2 = bdF (bvB sg (nI j).toNatClampNeg) 2 (bdF (bvB sg (nI i).toNatClampNeg) 0 B 2) 2
        rw [hci, hcj, hB1, hB2]
      · show C2 = bdF (bvC sg px py (nI j).toNatClampNeg) 2 (bdF (bvC sg px py (nI i).toNatClampNeg) 0 C 2) 2
        rw [hci, hcj, hC1, hC2]
      · show v = kdF (nI q) A2 B2 (exM sg (nI i).toNatClampNeg (nI j).toNatClampNeg) (eyM sg (nI i).toNatClampNeg (nI j).toNatClampNeg)
        rw [hci, hcj, h2]
    refine ⟨Nat.le_of_ble_eq_true rfl, [
      (17, [0, 1, 2], fun z lv w' => lv = [(0, .ref 50), (1, .int (nI i)), (2, .int (nI j))] ∧ w' = wMq (oMo th po re nw (nI n) pl tr bo pn ca sp co) px py sg A1 B1 C1 X Y D ∧ z = 500),
      (23, [0, 1, 2], fun z lv w' => lv = [(0, .ref 50), (1, .int (nI i)), (2, .int (nI j))] ∧ w' = wMq (oMo th po re nw (nI n) pl tr bo pn ca sp co) px py sg A2 B2 C2 X Y D ∧ z = 400),
      (30, [0, 1, 2, 3], fun z lv w' => ∃ (s : Nat) (t u m : Nat → Int64) (q : Nat), s ≤ 4 ∧ fmS A2 B2 C2 X Y D (oP s) t u m q ∧ lv = [(0, .ref 50), (1, .int (nI i)), (2, .int (nI j)), (3, .int (nI s))] ∧ w' = wMq (oMo th po re nw (nI n) pl tr bo pn ca sp (nI q)) px py sg A2 B2 C2 t u m ∧ z = (4 - s) * 20 + 110),
      (40, [0, 1, 2, 3, 4], fun z lv w' => ∃ (s g : Nat) (t u m : Nat → Int64) (q : Nat), s < 4 ∧ s < g ∧ g ≤ 4 ∧ fmS A2 B2 C2 X Y D (oP s + (g - (s + 1))) t u m q ∧ lv = [(0, .ref 50), (1, .int (nI i)), (2, .int (nI j)), (3, .int (nI s)), (4, .int (nI g))] ∧ w' = wMq (oMo th po re nw (nI n) pl tr bo pn ca sp (nI q)) px py sg A2 B2 C2 t u m ∧ z = (4 - s) * 20 + 109 - g),
      (76, [0, 1, 2, 3], fun z lv w' => ∃ (s : Nat) (t u m : Nat → Int64) (q : Nat), s ≤ 2 ∧ fmS A2 B2 C2 X Y D 6 t u m q ∧ ¬ nI q = 0 ∧ (∀ e, e < 2 * s → ¬ ruA A2 B2 (exM sg i j e) (eyM sg i j e)) ∧ lv = [(0, .ref 50), (1, .int (nI i)), (2, .int (nI j)), (3, .int (nI s))] ∧ w' = wMq (oMo th po re nw (nI n) pl tr bo pn ca sp (nI q)) px py sg A2 B2 C2 t u m ∧ z = (2 - s) * 10 + 5),
      (84, [0, 1, 2, 3, 4], fun z lv w' => ∃ (s g : Nat) (t u m : Nat → Int64) (q : Nat), s < 2 ∧ g ≤ 2 ∧ fmS A2 B2 C2 X Y D 6 t u m q ∧ ¬ nI q = 0 ∧ (∀ e, e < 2 * s + g → ¬ ruA A2 B2 (exM sg i j e) (eyM sg i j e)) ∧ lv = [(0, .ref 50), (1, .int (nI i)), (2, .int (nI j)), (3, .int (nI s)), (4, .int (nI g))] ∧ w' = wMq (oMo th po re nw (nI n) pl tr bo pn ca sp (nI q)) px py sg A2 B2 C2 t u m ∧ z = (2 - s) * 10 + 4 - g)], 100, 600, ?_, ?_⟩
    · intro y1 hq z lv w' hJ
      rcases List.mem_cons.mp hq with rfl | hq
      · obtain ⟨rfl, rfl, rfl⟩ := hJ
        conv => whnf
        refine ⟨⟨px, py, sg, A1, B1, C1, th, po, re, nw, nI n, pl, tr, bo, pn, ca, sp, co, j, 2, rfl, rfl, by omega, by omega, hsg j hj⟩, ?_⟩
        intro wc hwc
        have hwc : wc = wMd (oMo th po re nw (nI n) pl tr bo pn ca sp co) px py sg (bdF (bvA sg j) 2 A1 2) (bdF (bvB sg j) 2 B1 2) (bdF (bvC sg px py j) 2 C1 2) := hwc j 2 rfl (by omega) rfl (by omega)
        rw [hA2, hB2, hC2] at hwc
        subst hwc
        conv => whnf
        refine ⟨400, by omega, rfl, rfl, rfl⟩
      rcases List.mem_cons.mp hq with rfl | hq
      · obtain ⟨rfl, rfl, rfl⟩ := hJ
        conv => whnf
        rintro _ rfl
        conv => whnf
        refine ⟨(4 - 0) * 20 + 110, by omega, 0, X, Y, D, 0, by omega, ⟨rfl, rfl, rfl, rfl⟩, rfl, rfl, rfl⟩
      rcases List.mem_cons.mp hq with rfl | hq
      · obtain ⟨s, t, u, m, q, hs, hfc, rfl, rfl, rfl⟩ := hJ
        conv => whnf
        refine ⟨fun k => ?_, fun k => ?_⟩
        · have k : nI 4 ≤ nI s := k
          have e : s = 4 := by
            have := (nI_leI (by omega) (by omega)).mp k
            omega
          subst e
          conv => whnf
          refine ⟨fun k2 => ?_, fun k2 => ?_⟩
          · exact fin t u m q 0 hfc (by rw [kdF, if_pos k2])
          · conv => whnf
            rintro _ rfl
            conv => whnf
            refine ⟨(2 - 0) * 10 + 5, by omega, 0, t, u, m, q, by omega, hfc, k2, fun e he => absurd he (by omega), rfl, rfl, rfl⟩
        · have k : ¬ nI 4 ≤ nI s := k
          have hi2 : s < 4 := by
            rcases Nat.lt_or_ge s 4 with z | z
            · exact z
            · exact absurd (nI_le z (by omega)) k
          conv => whnf
          rintro _ rfl
          conv => whnf
          refine ⟨(4 - s) * 20 + 109 - (s + 1), by omega, s, s + 1, t, u, m, q, hi2, by omega, by omega, ?_, ?_, rfl, rfl⟩
          · rw [show oP s + (s + 1 - (s + 1)) = oP s by omega]
            exact hfc
          · show [_, _, _, _, (4, Value.int (nI s + 1))] = _
            rw [nI_1]
      rcases List.mem_cons.mp hq with rfl | hq
      · obtain ⟨s, g, t, u, m, q, hs, hsg2, hg4, hfc, rfl, rfl, rfl⟩ := hJ
        conv => whnf
        refine ⟨fun k => ?_, fun k => ?_⟩
        · have k : nI 4 ≤ nI g := k
          have e : g = 4 := by
            have := (nI_leI (by omega) (by omega)).mp k
            omega
          subst e
          conv => whnf
          rintro _ rfl
          conv => whnf
          refine ⟨(4 - (s + 1)) * 20 + 110, by omega, s + 1, t, u, m, q, by omega, ?_, ?_, rfl, rfl⟩
          · rw [← oP_s s hs]
            exact hfc
          · show [_, _, _, (3, Value.int (nI s + 1))] = _
            rw [nI_1]
        · have k : ¬ nI 4 ≤ nI g := k
          have hj2 : g < 4 := by
            rcases Nat.lt_or_ge g 4 with z | z
            · exact z
            · exact absurd (nI_le z (by omega)) k
          obtain ⟨hpp, hs6⟩ := pP_at s hs g hj2 hsg2
          have hn6 : q < 6 := Nat.lt_of_le_of_lt (fmS_n hfc) hs6
          conv => whnf
          refine ⟨⟨A2, B2, C2, t, u, m, th, po, re, nw, nI n, pl, tr, bo, pn, ca, sp, q, s, g, rfl, rfl, hn6, hs, hj2⟩, ?_⟩
          intro wc hwc
          obtain ⟨t', u', m', q', g1, hw⟩ := hwc q s g rfl hn6 rfl hs rfl hj2
          have g1 : mcR A2 B2 C2 s g t u m q t' u' m' q' := g1
          have hw : wc = wMx (oMo th po re nw (nI n) pl tr bo pn ca sp (nI q')) A2 B2 C2 t' u' m' := hw
          subst hw
          conv => whnf
          rintro _ rfl
          conv => whnf
          refine ⟨(4 - s) * 20 + 109 - (g + 1), by omega, s, g + 1, t', u', m', q', hs, by omega, by omega, ?_, ?_, rfl, rfl⟩
          · rw [show oP s + (g + 1 - (s + 1)) = oP s + (g - (s + 1)) + 1 by omega]
            refine ⟨t, u, m, q, hfc, ?_⟩
            rw [hpp]
            exact g1
          · show [_, _, _, _, (4, Value.int (nI g + 1))] = _
            rw [nI_1]
      rcases List.mem_cons.mp hq with rfl | hq
      · obtain ⟨s, t, u, m, q, hs, hfc, hq0, hall, rfl, rfl, rfl⟩ := hJ
        conv => whnf
        refine ⟨fun k => ?_, fun k => ?_⟩
        · have k : nI 2 ≤ nI s := k
          have e : s = 2 := by
            have := (nI_leI (by omega) (by omega)).mp k
            omega
          subst e
          exact fin t u m q 1 hfc (by rw [kdF, if_neg hq0, if_neg (none4 (fun e he => hall e (by omega)))])
        · have k : ¬ nI 2 ≤ nI s := k
          have hi2 : s < 2 := by
            rcases Nat.lt_or_ge s 2 with z | z
            · exact z
            · exact absurd (nI_le z (by omega)) k
          conv => whnf
          rintro _ rfl
          conv => whnf
          refine ⟨(2 - s) * 10 + 4 - 0, by omega, s, 0, t, u, m, q, hi2, by omega, hfc, hq0, hall, rfl, rfl, rfl⟩
      rcases List.mem_cons.mp hq with rfl | hq
      · obtain ⟨s, g, t, u, m, q, hs, hg, hfc, hq0, hall, rfl, rfl, rfl⟩ := hJ
        conv => whnf
        refine ⟨fun k => ?_, fun k => ?_⟩
        · have k : nI 2 ≤ nI g := k
          have e : g = 2 := by
            have := (nI_leI (by omega) (by omega)).mp k
            omega
          subst e
          conv => whnf
          rintro _ rfl
          conv => whnf
          refine ⟨(2 - (s + 1)) * 10 + 5, by omega, s + 1, t, u, m, q, by omega, hfc, hq0, fun e he => hall e (by omega), ?_, rfl, rfl⟩
          show [_, _, _, (3, Value.int (nI s + 1))] = _
          rw [nI_1]
        · have k : ¬ nI 2 ≤ nI g := k
          have hg2 : g < 2 := by
            rcases Nat.lt_or_ge g 2 with z | z
            · exact z
            · exact absurd (nI_le z (by omega)) k
          have e2 : (2 : Int32) + 2 * nI g = nI (2 + 2 * g) := by
            show nI 2 + nI 2 * nI g = _
            rw [pk_mul, nI_add]
          have e3 : (3 : Int32) + 2 * nI g = nI (3 + 2 * g) := by
            show nI 3 + nI 2 * nI g = _
            rw [pk_mul, nI_add]
          have hgm : (2 * s + g) % 2 = g := by omega
          have rest : ∀ r : Int32, r = bI (ruA A2 B2 (exM sg i j (2 * s + g)) (eyM sg i j (2 * s + g))) → (¬ r = 0 → rz_end ce_X7_meets [.ref 50, .int (nI i), .int (nI j)] (wMq (oMo th po re nw (nI n) pl tr bo pn ca sp co) px py sg A B C X Y D) (some (.int 2)) (wMq (oMo th po re nw (nI n) pl tr bo pn ca sp (nI q)) px py sg A2 B2 C2 t u m)) ∧ (r = 0 → ∀ e, e < 2 * s + (g + 1) → ¬ ruA A2 B2 (exM sg i j e) (eyM sg i j e)) := by
            intro r hr
            refine ⟨fun z => ?_, fun z => ?_⟩
            · rw [hr] at z
              exact fin t u m q 2 hfc (by rw [kdF, if_neg hq0, if_pos (any4 (2 * s + g) (by omega) (bI_n z))])
            · rw [hr] at z
              intro e he
              rcases Nat.lt_or_ge e (2 * s + g) with y | y
              · exact hall e y
              · have : e = 2 * s + g := by omega
                rw [this]
                exact bI_0 z
          rcases (by omega : s = 0 ∨ s = 1) with rfl | rfl
          · have hx : exM sg i j (2 * 0 + g) = (sg (6 * i + (2 + 2 * g))).toInt64 := by rw [exM, hgm, eiM, if_pos (by omega)]
            have hy : eyM sg i j (2 * 0 + g) = (sg (6 * i + (3 + 2 * g))).toInt64 := by rw [eyM, hgm, eiM, if_pos (by omega)]
            rw [hx, hy] at rest
            conv => whnf
            refine ⟨fun k0 => ?_, fun k0 => ?_⟩
            · conv => whnf
              refine ⟨⟨sg, th, po, re, nw, nI n, pl, tr, bo, pn, ca, sp, nI q, i, 2 + 2 * g, (by show [_, _, Value.int ((2 : Int32) + 2 * nI g)] = _; rw [e2]), rfl, by omega, by omega⟩, ?_⟩
              intro r hr
              have hr : r = sg (6 * i + (2 + 2 * g)) := hr i (2 + 2 * g) rfl e2 (by omega) (by omega)
              subst hr
              conv => whnf
              refine ⟨fun k1 => ?_, fun k1 => ?_⟩
              · conv => whnf
                refine ⟨⟨sg, th, po, re, nw, nI n, pl, tr, bo, pn, ca, sp, nI q, i, 3 + 2 * g, (by show [_, _, Value.int ((3 : Int32) + 2 * nI g)] = _; rw [e3]), rfl, by omega, by omega⟩, ?_⟩
                intro r hr
                have hr : r = sg (6 * i + (3 + 2 * g)) := hr i (3 + 2 * g) rfl e3 (by omega) (by omega)
                subst hr
                conv => whnf
                refine ⟨⟨A2, B2, C2, th, po, re, nw, nI n, pl, tr, bo, pn, ca, sp, nI q, _, _, _, 1, rfl, rfl, trivial⟩, ?_⟩
                intro r hr
                have rs := rest r hr
                conv => whnf
                refine ⟨fun k2 => ?_, fun k2 => ?_⟩
                · conv => whnf
                  rintro _ rfl
                  conv => whnf
                  refine ⟨(2 - 0) * 10 + 4 - (g + 1), by omega, 0, g + 1, t, u, m, q, by omega, by omega, hfc, hq0, rs.2 k2, ?_, rfl, rfl⟩
                  show [_, _, _, _, (4, Value.int (nI g + 1))] = _
                  rw [nI_1]
                · exact rs.1 k2
              · exact absurd rfl k1
            · exact absurd rfl k0
          · have hx : exM sg i j (2 * 1 + g) = (sg (6 * j + (2 + 2 * g))).toInt64 := by rw [exM, hgm, eiM, if_neg (by omega)]
            have hy : eyM sg i j (2 * 1 + g) = (sg (6 * j + (3 + 2 * g))).toInt64 := by rw [eyM, hgm, eiM, if_neg (by omega)]
            rw [hx, hy] at rest
            conv => whnf
            refine ⟨fun k0 => ?_, fun k0 => ?_⟩
            · exact absurd k0 (by decide)
            · conv => whnf
              refine ⟨⟨sg, th, po, re, nw, nI n, pl, tr, bo, pn, ca, sp, nI q, j, 2 + 2 * g, (by show [_, _, Value.int ((2 : Int32) + 2 * nI g)] = _; rw [e2]), rfl, by omega, by omega⟩, ?_⟩
              intro r hr
              have hr : r = sg (6 * j + (2 + 2 * g)) := hr j (2 + 2 * g) rfl e2 (by omega) (by omega)
              subst hr
              conv => whnf
              refine ⟨fun k1 => ?_, fun k1 => ?_⟩
              · exact absurd k1 (by decide)
              · conv => whnf
                refine ⟨⟨sg, th, po, re, nw, nI n, pl, tr, bo, pn, ca, sp, nI q, j, 3 + 2 * g, (by show [_, _, Value.int ((3 : Int32) + 2 * nI g)] = _; rw [e3]), rfl, by omega, by omega⟩, ?_⟩
                intro r hr
                have hr : r = sg (6 * j + (3 + 2 * g)) := hr j (3 + 2 * g) rfl e3 (by omega) (by omega)
                subst hr
                conv => whnf
                refine ⟨⟨A2, B2, C2, th, po, re, nw, nI n, pl, tr, bo, pn, ca, sp, nI q, _, _, _, 1, rfl, rfl, trivial⟩, ?_⟩
                intro r hr
                have rs := rest r hr
                conv => whnf
                refine ⟨fun k2 => ?_, fun k2 => ?_⟩
                · conv => whnf
                  rintro _ rfl
                  conv => whnf
                  refine ⟨(2 - 1) * 10 + 4 - (g + 1), by omega, 1, g + 1, t, u, m, q, by omega, by omega, hfc, hq0, rs.2 k2, ?_, rfl, rfl⟩
                  show [_, _, _, _, (4, Value.int (nI g + 1))] = _
                  rw [nI_1]
                · exact rs.1 k2
      · exact absurd hq List.not_mem_nil
    · conv => whnf
      refine ⟨⟨px, py, sg, th, po, re, nw, pl, tr, bo, pn, ca, sp, co, nI i, nI j, n, rfl, rfl, hn, hsg⟩, ?_⟩
      intro r hr
      obtain rfl : r = bI (paP px py sg n (nI i) (nI j)) := hr n rfl hn
      conv => whnf
      refine ⟨fun h => ?_, fun h => ?_⟩
      · exact absurd ok (bI_0 h)
      · conv => whnf
        refine ⟨⟨px, py, sg, A, B, C, th, po, re, nw, nI n, pl, tr, bo, pn, ca, sp, co, i, 0, rfl, rfl, by omega, by omega, hsg i hi⟩, ?_⟩
        intro wc hwc
        have hwc : wc = wMd (oMo th po re nw (nI n) pl tr bo pn ca sp co) px py sg (bdF (bvA sg i) 0 A 2) (bdF (bvB sg i) 0 B 2) (bdF (bvC sg px py i) 0 C 2) := hwc i 0 rfl (by omega) rfl (by omega)
        rw [hA1, hB1, hC1] at hwc
        subst hwc
        conv => whnf
        refine ⟨500, by omega, rfl, rfl, rfl⟩
  · refine ⟨Nat.le_of_ble_eq_true rfl, [], 60, 0, fun q h => absurd h List.not_mem_nil, ?_⟩
    conv => whnf
    refine ⟨⟨px, py, sg, th, po, re, nw, pl, tr, bo, pn, ca, sp, co, x, y, n, rfl, rfl, hn, hsg⟩, ?_⟩
    intro r hr
    obtain rfl : r = bI (paP px py sg n x y) := hr n rfl hn
    conv => whnf
    refine ⟨fun h => ?_, fun h => ?_⟩
    · refine ⟨⟨_, rfl⟩, fun z => (by cases z), ?_⟩
      intro n' e1 g1
      have e1 : n = n' := nI_inj (by omega) (by omega) e1
      subst e1
      exact ⟨A, B, C, X, Y, D, co, if_no ok ⟨rfl, rfl, rfl, rfl, rfl, rfl, rfl, rfl⟩, rfl⟩
    · exact absurd (bI_n h) ok
theorem rv_X7_meets : rz_Rv yX7_meets.cls ce_X7_meets := fun av w h => by
  obtain ⟨_, _, _, _, _, _, _, _, _, _, _, _, _, _, _, _, _, _, _, _, _, _, _, rfl, rfl, _⟩ := h
  exact ⟨_, _, _, _, _, _, rfl, rfl, rfl⟩
theorem cn_X7_meets (l : Launch) : rz_Con l yX7_meets cX7_meets 5 (some .int) 3 0 0 ce_X7_meets := rz_con (by decide +kernel) fo_X7 (fun _ h => absurd h List.not_mem_nil) (by
  intro q hq
  rcases List.mem_cons.mp hq with rfl | hq
  · exact rz_callV (cn_X7_of l) (by decide +kernel) ⟨Nat.le_of_ble_eq_true rfl, Nat.le_of_ble_eq_true rfl⟩ m_X7_of rfl i_X7_of v_X7_of rv_X7_of n_X7_119
  rcases List.mem_cons.mp hq with rfl | hq
  · exact rz_callV (cn_X7_isPair l) (by decide +kernel) ⟨Nat.le_of_ble_eq_true rfl, Nat.le_of_ble_eq_true rfl⟩ m_X7_isPair rfl i_X7_isPair v_X7_isPair rv_X7_isPair n_X7_124
  rcases List.mem_cons.mp hq with rfl | hq
  · exact rz_callV (cn_X7_bounds l) (by decide +kernel) ⟨Nat.le_of_ble_eq_true rfl, Nat.le_of_ble_eq_true rfl⟩ m_X7_bounds rfl i_X7_bounds v_X7_bounds rv_X7_bounds n_X7_127
  rcases List.mem_cons.mp hq with rfl | hq
  · exact rz_callV (cn_X7_cross l) (by decide +kernel) ⟨Nat.le_of_ble_eq_true rfl, Nat.le_of_ble_eq_true rfl⟩ m_X7_cross rfl i_X7_cross v_X7_cross rv_X7_cross n_X7_134
  rcases List.mem_cons.mp hq with rfl | hq
  · exact rz_callV (cn_X7_isWithin l) (by decide +kernel) ⟨Nat.le_of_ble_eq_true rfl, Nat.le_of_ble_eq_true rfl⟩ m_X7_isWithin rfl i_X7_isWithin v_X7_isWithin rv_X7_isWithin n_X7_137
  exact absurd hq List.not_mem_nil) r_X7_meets vc_X7_meets
end
section
/-! The reference's common, gap, latest, speed, track, thrown, plot, corners. -/
theorem i64_lt (x : Int64) : x.toInt < 2 ^ 63 := Int64.toInt_lt x
theorem i64_bm {v : Int} (h1 : -2 ^ 63 ≤ v) (h2 : v < 2 ^ 63) : v.bmod (2 ^ 64) = v := Int.bmod_eq_of_le (by omega) (by omega)
theorem lrem_toInt {x y : Int64} (hx : 0 ≤ x.toInt) (hy : 0 < y.toInt) : (x - x / y * y).toInt = x.toInt % y.toInt := by
  have hX := i64_lt x
  have hq0 : 0 ≤ x.toInt / y.toInt := Int.ediv_nonneg hx (by omega)
  have hq1 : x.toInt / y.toInt ≤ x.toInt := Int.ediv_le_self _ hx
  have h1 : (x / y).toInt = x.toInt / y.toInt := by
    rw [Int64.toInt_div, Int.tdiv_eq_ediv_of_nonneg hx]
    exact i64_bm (by omega) (by omega)
  have e := Int.mul_ediv_add_emod x.toInt y.toInt
  have m0 := Int.emod_nonneg x.toInt (show y.toInt ≠ 0 by omega)
  have hp : 0 ≤ x.toInt / y.toInt * y.toInt := Int.mul_nonneg hq0 (by omega)
  have ec : y.toInt * (x.toInt / y.toInt) = x.toInt / y.toInt * y.toInt := Int.mul_comm _ _
  rw [ec] at e
  have h2 : (x / y * y).toInt = x.toInt / y.toInt * y.toInt := by
    rw [Int64.toInt_mul, h1]
    exact i64_bm (by omega) (by omega)
  rw [Int64.toInt_sub, h2, i64_bm (by omega) (by omega)]
  omega
/-- the greatest common divisor, as a long -/
def gcL (x y : Int64) : Int64 := Int64.ofNat (Nat.gcd x.toInt.natAbs y.toInt.natAbs)
theorem abL_toInt {x : Int64} (h : -2 ^ 62 < x.toInt) : (abL x).toInt = x.toInt.natAbs := by
  have hX := i64_lt x
  unfold abL
  by_cases z : 0 ≤ x
  · rw [if_pos z]
    have z : 0 ≤ x.toInt := Int64.le_iff_toInt_le.mp z
    omega
  · rw [if_neg z]
    have z : ¬ 0 ≤ x.toInt := fun q => z (Int64.le_iff_toInt_le.mpr q)
    rw [Int64.toInt_neg, i64_bm (by omega) (by omega)]
    omega
theorem ofNat_toInt64 {n : Nat} (h : n < 2 ^ 63) : (Int64.ofNat n).toInt = (n : Int) := Int64.toInt_ofNat_of_lt h
theorem gcL_self {x : Int64} {g : Nat} (h0 : x.toInt = (g : Int)) : x = Int64.ofNat g := by
  apply Int64.toInt_inj.mp
  have := i64_lt x
  rw [ofNat_toInt64 (by omega), h0]
def ce_X7_common : rz_K := (2, [], 1, true, fun av w => ∃ x y : Int64, av = [.long x, .long y] ∧ w = [] ∧ -2 ^ 62 < x.toInt ∧ x.toInt < 2 ^ 62 ∧ -2 ^ 62 < y.toInt ∧ y.toInt < 2 ^ 62, fun av _ o _ => rS o = gcL (rB av 0) (rB av 1))
def cl_X7_common : List (Nat × rz_K) := [(153, ce_J9_abs_067f4)]
def cv_X7_common : List (Nat × rz_K) := []
theorem vc_X7_common : rz_VC k_X7_common fl_X7 cl_X7_common cv_X7_common s_X7_common false 10 ce_X7_common := by
  intro av w hlen hk hpre
  obtain ⟨x, y, rfl, rfl, hx1, hx2, hy1, hy2⟩ := hpre
  refine ⟨Nat.le_of_ble_eq_true rfl, [(12, [0, 2, 4, 6], fun z lv w' => ∃ (a b : Int64), 0 ≤ a.toInt ∧ 0 ≤ b.toInt ∧ Nat.gcd a.toInt.toNat b.toInt.toNat = Nat.gcd x.toInt.natAbs y.toInt.natAbs ∧ lv = [(0, .long x), (2, .long y), (4, .long a), (6, .long b)] ∧ w' = [] ∧ z = b.toInt.toNat)], 60, 2 ^ 62, ?_, ?_⟩
  · intro y1 hq z lv w' hj
    rcases List.mem_cons.mp hq with rfl | hq
    · obtain ⟨a, b, ha, hb, hg, rfl, rfl, rfl⟩ := hj
      conv => whnf
      refine ⟨fun k => ?_, fun k => ?_⟩
      · have k : b = 0 := (lg_eq0 b 0).mp k
        refine ⟨⟨_, rfl⟩, fun _ => rfl, ?_⟩
        show a = gcL x y
        rw [k] at hg
        have e0 : (0 : Int64).toInt.toNat = 0 := rfl
        rw [e0, Nat.gcd_zero_right] at hg
        exact gcL_self (by omega)
      · have k : ¬ b = 0 := fun z => k ((lg_eq0 b 0).mpr z)
        have hb0 : 0 < b.toInt := by
          have : b.toInt ≠ 0 := fun z => k (Int64.toInt_inj.mp z)
          omega
        conv => whnf
        refine ⟨k, ?_⟩
        conv => whnf
        intro r er
        have hr : r.toInt = a.toInt % b.toInt := by rw [er]; exact lrem_toInt ha hb0
        have m0 := Int.emod_nonneg a.toInt (show b.toInt ≠ 0 by omega)
        have m1 := Int.emod_lt_of_pos a.toInt hb0
        conv => whnf
        intro v_ ev_
        have ev_ := ev_.symm
        subst ev_
        conv => whnf
        intro v_ ev_
        have ev_ := ev_.symm
        subst ev_
        conv => whnf
        refine ⟨r.toInt.toNat, by omega, b, r, hb, by omega, ?_, rfl, rfl, rfl⟩
        rw [← hg, hr]
        have e1 : (a.toInt % b.toInt).toNat = a.toInt.toNat % b.toInt.toNat := Int.toNat_emod ha hb
        rw [e1, Nat.gcd_comm b.toInt.toNat, ← Nat.gcd_rec, Nat.gcd_comm]
    · exact absurd hq List.not_mem_nil
  · conv => whnf
    refine ⟨⟨_, rfl, rfl, trivial⟩, ?_⟩
    intro r hr
    obtain rfl : r = abL x := hr
    conv => whnf
    rintro _ rfl
    conv => whnf
    refine ⟨⟨_, rfl, rfl, trivial⟩, ?_⟩
    intro r hr
    obtain rfl : r = abL y := hr
    conv => whnf
    rintro _ rfl
    have e1 := abL_toInt hx1
    have e2 := abL_toInt hy1
    conv => whnf
    refine ⟨(abL y).toInt.toNat, by omega, abL x, abL y, by omega, by omega, ?_, rfl, rfl, rfl⟩
    rw [e1, e2]
    rfl
theorem cn_X7_common (l : Launch) : rz_Con l yX7_common cX7_common 10 (some .long) 1 0 0 ce_X7_common := rz_con (by decide +kernel) fo_X7 (by
  intro q hq
  rcases List.mem_cons.mp hq with rfl | hq
  · exact rz_callS (cn_J9_abs_067f4 l) (by decide +kernel) ⟨Nat.le_of_ble_eq_true rfl, Nat.le_of_ble_eq_true rfl⟩ m_J9_abs_067f4 t_J9_abs_067f4 n_X7_153
  exact absurd hq List.not_mem_nil) (fun _ h => absurd h List.not_mem_nil) r_X7_common vc_X7_common
def mxL (x y : Int64) : Int64 := if x < y then y else x
def gmF (a b c d : Int64) : Int64 := mxL 0 (mxL (a - d) (c - b))
def ce_X7_gap : rz_K := (4, [], 1, true, fun av w => ∃ a b c d : Int64, av = [.long a, .long b, .long c, .long d] ∧ w = [] ∧ True, fun av _ o _ => rS o = gmF (rB av 0) (rB av 1) (rB av 2) (rB av 3))
def cl_X7_gap : List (Nat × rz_K) := [(169, ce_J9_max_f86c9)]
def cv_X7_gap : List (Nat × rz_K) := []
theorem vc_X7_gap : rz_VC k_X7_gap fl_X7 cl_X7_gap cv_X7_gap s_X7_gap false 8 ce_X7_gap := by
  intro av w hlen hk hpre
  obtain ⟨a, b, c, d, rfl, rfl, -⟩ := hpre
  refine ⟨Nat.le_of_ble_eq_true rfl, [], 60, 0, fun q h => absurd h List.not_mem_nil, ?_⟩
  conv => whnf
  refine ⟨⟨_, _, rfl, rfl, trivial⟩, ?_⟩
  intro r hr
  obtain rfl : r = mxL (a - d) (c - b) := hr
  conv => whnf
  refine ⟨⟨_, _, rfl, rfl, trivial⟩, ?_⟩
  intro r hr
  conv => whnf
  exact ⟨⟨_, rfl⟩, fun _ => rfl, hr⟩
theorem cn_X7_gap (l : Launch) : rz_Con l yX7_gap cX7_gap 8 (some .long) 1 0 0 ce_X7_gap := rz_con (by decide +kernel) fo_X7 (by
  intro q hq
  rcases List.mem_cons.mp hq with rfl | hq
  · exact rz_callS (cn_J9_max_f86c9 l) (by decide +kernel) ⟨Nat.le_of_ble_eq_true rfl, Nat.le_of_ble_eq_true rfl⟩ m_J9_max_f86c9 t_J9_max_f86c9 n_X7_169
  exact absurd hq List.not_mem_nil) (fun _ h => absurd h List.not_mem_nil) r_X7_gap vc_X7_gap
/-- the last plot of a track -/
def lsP (tk : Nat → Int32) (z : Nat) (t : Int32) (p : Nat) : Prop := p < z ∧ tk p = t ∧ ∀ q, p < q → q < z → ¬ tk q = t
theorem lsP_u {tk : Nat → Int32} {z : Nat} {t : Int32} {p q : Nat} (h : lsP tk z t p) (g : lsP tk z t q) : p = q := by
  rcases Nat.lt_trichotomy p q with y | y | y
  · exact absurd g.2.1 (h.2.2 q y g.1)
  · exact y
  · exact absurd h.2.1 (g.2.2 p y h.1)
def ce_X7_latest : rz_K := (2, [50, 60], 0, true, fun av w => ∃ (tk : Nat → Int32) (th po re nw si tr bo pn ca sp co t : Int32) (z p : Nat), av = [.ref 50, .int t] ∧ w = [(50, oMo th po re nw si (nI z) tr bo pn ca sp co), (60, ri 60 tk)] ∧ z ≤ 60 ∧ lsP tk z t p, fun av w o _ => ∀ z p, rF w 50 11 = nI z → z ≤ 60 → lsP (rI w 60) z (rA av 1) p → rR o = nI p)
def cl_X7_latest : List (Nat × rz_K) := []
def cv_X7_latest : List (Nat × rz_K) := []
theorem vc_X7_latest : rz_VC k_X7_latest fl_X7 cl_X7_latest cv_X7_latest s_X7_latest false 3 ce_X7_latest := by
  intro av w hlen hk hpre
  obtain ⟨tk, th, po, re, nw, si, tr, bo, pn, ca, sp, co, t, z, p, rfl, rfl, hz, hp⟩ := hpre
  refine ⟨Nat.le_of_ble_eq_true rfl, [(7, [0, 1, 2], fun y lv w' => ∃ i : Nat, p ≤ i ∧ i < z ∧ lv = [(0, .ref 50), (1, .int t), (2, .int (nI i))] ∧ w' = [(50, oMo th po re nw si (nI z) tr bo pn ca sp co), (60, ri 60 tk)] ∧ y = i + 1)], 60, z + 1, ?_, ?_⟩
  · intro y1 hq y lv w' hj
    rcases List.mem_cons.mp hq with rfl | hq
    · obtain ⟨i, hi1, hi2, rfl, rfl, rfl⟩ := hj
      have hcl : (nI i).toNatClampNeg = i := nI_clamp (by omega)
      conv => whnf
      refine ⟨vp_in_nI (by omega) (by omega), ?_⟩
      conv => whnf
      refine ⟨fun k => ?_, fun k => ?_⟩
      · have k : tk (nI i).toNatClampNeg = t := k
        rw [hcl] at k
        have e : p = i := by
          rcases Nat.lt_or_ge p i with y | y
          · exact absurd k (hp.2.2 i y hi2)
          · omega
        subst e
        refine ⟨⟨_, rfl⟩, fun _ => rfl, ?_⟩
        intro z' p' e1 h1 h2
        have e1 : z = z' := nI_inj (by omega) (by omega) e1
        subst e1
        have := lsP_u hp h2
        rw [← this]
        rfl
      · have k : ¬ tk (nI i).toNatClampNeg = t := k
        rw [hcl] at k
        have hne : ¬ p = i := fun e => k (by rw [← e]; exact hp.2.1)
        obtain ⟨q, rfl⟩ : ∃ q, i = q + 1 := ⟨i - 1, by omega⟩
        conv => whnf
        rintro _ rfl
        conv => whnf
        refine ⟨q + 1, by omega, q, by omega, by omega, ?_, rfl, rfl⟩
        show [_, _, (2, Value.int (nI (q + 1) + (-1)))] = _
        rw [pk_m1]
    · exact absurd hq List.not_mem_nil
  · obtain ⟨q, rfl⟩ : ∃ q, z = q + 1 := ⟨z - 1, by have := hp.1; omega⟩
    have hp1 := hp.1
    conv => whnf
    rintro _ rfl
    conv => whnf
    refine ⟨q + 1, by omega, q, by omega, by omega, ?_, rfl, rfl⟩
    show [_, _, (2, Value.int (nI (q + 1) - 1))] = _
    rw [nI_pred]
theorem rv_X7_latest : rz_Rv yX7_latest.cls ce_X7_latest := fun av w h => by
  obtain ⟨_, _, _, _, _, _, _, _, _, _, _, _, _, _, _, rfl, rfl, _⟩ := h
  exact ⟨_, _, _, _, _, _, rfl, rfl, rfl⟩
theorem cn_X7_latest (l : Launch) : rz_Con l yX7_latest cX7_latest 3 (some .int) 0 0 0 ce_X7_latest := rz_con (by decide +kernel) fo_X7 (fun _ h => absurd h List.not_mem_nil) (fun _ h => absurd h List.not_mem_nil) r_X7_latest vc_X7_latest
def ce_X7_speed : rz_K := (2, [50], 0, false, fun av w => ∃ (th po re nw si pl tr bo pn ca sp co x : Int32), av = [.ref 50, .int x] ∧ w = [(50, oMo th po re nw si pl tr bo pn ca sp co)] ∧ True, fun av w o w' => if 1 ≤ rA av 1 ∧ rA av 1 ≤ 100 then rR o = 1 ∧ w' = mset (mset w 0 0) 16 (rA av 1) else rR o = 0 ∧ w' = mset w 0 0)
def cl_X7_speed : List (Nat × rz_K) := [(87, ce_X7_isIn)]
def cv_X7_speed : List (Nat × rz_K) := []
theorem vc_X7_speed : rz_VC k_X7_speed fl_X7 cl_X7_speed cv_X7_speed s_X7_speed true 2 ce_X7_speed := by
  intro av w hlen hk hpre
  obtain ⟨th, po, re, nw, si, pl, tr, bo, pn, ca, sp, co, x, rfl, rfl, -⟩ := hpre
  refine ⟨Nat.le_of_ble_eq_true rfl, [], 60, 0, fun q h => absurd h List.not_mem_nil, ?_⟩
  conv => whnf
  refine ⟨⟨_, _, _, rfl, rfl, trivial⟩, ?_⟩
  intro r hr
  obtain rfl : r = bI (1 ≤ x ∧ x ≤ 100) := hr
  conv => whnf
  refine ⟨fun h1 => ?_, fun h1 => ?_⟩
  · exact ⟨Or.inl rfl, ⟨_, rfl⟩, fun z => (by cases z), if_no (bI_0 h1) ⟨rfl, rfl⟩⟩
  · exact ⟨Or.inr rfl, ⟨_, rfl⟩, fun z => (by cases z), if_yes (bI_n h1) ⟨rfl, rfl⟩⟩
theorem rv_X7_speed : rz_Rv yX7_speed.cls ce_X7_speed := fun av w h => by
  obtain ⟨_, _, _, _, _, _, _, _, _, _, _, _, _, rfl, rfl, _⟩ := h
  exact ⟨_, _, _, _, _, _, rfl, rfl, rfl⟩
theorem cn_X7_speed (l : Launch) : rz_Con l yX7_speed cX7_speed 2 (some .boolean) 1 0 0 ce_X7_speed := rz_con (by decide +kernel) fo_X7 (by
  intro q hq
  rcases List.mem_cons.mp hq with rfl | hq
  · exact rz_callS (cn_X7_isIn l) (by decide +kernel) ⟨Nat.le_of_ble_eq_true rfl, Nat.le_of_ble_eq_true rfl⟩ m_X7_isIn t_X7_isIn n_X7_87
  exact absurd hq List.not_mem_nil) (fun _ h => absurd h List.not_mem_nil) r_X7_speed vc_X7_speed
def ce_X7_thrown : rz_K := (1, [50], 0, true, fun av w => ∃ (th po re nw si pl tr bo pn ca sp co : Int32), av = [.ref 50] ∧ w = [(50, oMo th po re nw si pl tr bo pn ca sp co)] ∧ True, fun _ w o _ => rR o = rF w 50 0)
def cl_X7_thrown : List (Nat × rz_K) := []
def cv_X7_thrown : List (Nat × rz_K) := []
theorem vc_X7_thrown : rz_VC k_X7_thrown fl_X7 cl_X7_thrown cv_X7_thrown s_X7_thrown false 1 ce_X7_thrown := by
  intro av w hlen hk hpre
  obtain ⟨th, po, re, nw, si, pl, tr, bo, pn, ca, sp, co, rfl, rfl, -⟩ := hpre
  refine ⟨Nat.le_of_ble_eq_true rfl, [], 60, 0, fun q h => absurd h List.not_mem_nil, ?_⟩
  conv => whnf
  exact ⟨⟨_, rfl⟩, fun _ => rfl, rfl⟩
theorem rv_X7_thrown : rz_Rv yX7_thrown.cls ce_X7_thrown := fun av w h => by
  obtain ⟨_, _, _, _, _, _, _, _, _, _, _, _, rfl, rfl, _⟩ := h
  exact ⟨_, _, _, _, _, _, rfl, rfl, rfl⟩
theorem cn_X7_thrown (l : Launch) : rz_Con l yX7_thrown cX7_thrown 1 (some .int) 0 0 0 ce_X7_thrown := rz_con (by decide +kernel) fo_X7 (fun _ h => absurd h List.not_mem_nil) (fun _ h => absurd h List.not_mem_nil) r_X7_thrown vc_X7_thrown
abbrev wMt (o : rz_C) (sg fi se tk : Nat → Int32) : rz_W := [(50, o), (57, ri 600 sg), (58, ri 60 fi), (59, ri 60 se), (60, ri 60 tk)]
def ce_X7_track : rz_K := (3, [50, 57, 58, 59, 60], 0, false, fun av w => ∃ (sg fi se tk : Nat → Int32) (th po re nw si tr bo pn ca sp co p q : Int32) (n : Nat), av = [.ref 50, .int p, .int q] ∧ w = wMt (oMo th po re nw si (nI n) tr bo pn ca sp co) sg fi se tk ∧ n ≤ 60 ∧ ∀ i, i < n → vp_in (fi i) 100, fun av w o w' => w' = mset w 0 0 ∧ ∀ n, rF w 50 11 = nI n → n ≤ 60 → rR o = if okS (rA av 1) n then (if rA av 2 = 0 then rI w 60 (rA av 1).toNatClampNeg else if rA av 2 = 1 then rI w 58 (rA av 1).toNatClampNeg else if rA av 2 = 2 then rI w 59 (rA av 1).toNatClampNeg else if rA av 2 = 3 then rI w 57 (6 * (rI w 58 (rA av 1).toNatClampNeg).toNatClampNeg + 1) else -1) else -1)
def cl_X7_track : List (Nat × rz_K) := [(87, ce_X7_isIn)]
def cv_X7_track : List (Nat × rz_K) := [(119, ce_X7_of)]
theorem vc_X7_track : rz_VC k_X7_track fl_X7 cl_X7_track cv_X7_track s_X7_track false 3 ce_X7_track := by
  intro av w hlen hk hpre
  obtain ⟨sg, fi, se, tk, th, po, re, nw, si, tr, bo, pn, ca, sp, co, p, q, n, rfl, rfl, hn, hfi⟩ := hpre
  refine ⟨Nat.le_of_ble_eq_true rfl, [], 60, 0, fun q h => absurd h List.not_mem_nil, ?_⟩
  have fin : ∀ v : Int32, (v = if okS p n then (if q = 0 then tk p.toNatClampNeg else if q = 1 then fi p.toNatClampNeg else if q = 2 then se p.toNatClampNeg else if q = 3 then sg (6 * (fi p.toNatClampNeg).toNatClampNeg + 1) else -1) else -1) → rz_end ce_X7_track [.ref 50, .int p, .int q] (wMt (oMo th po re nw si (nI n) tr bo pn ca sp co) sg fi se tk) (some (.int v)) (wMt (oMo 0 po re nw si (nI n) tr bo pn ca sp co) sg fi se tk) := by
    intro v hv
    refine ⟨⟨_, rfl⟩, fun z => (by cases z), rfl, ?_⟩
    intro m e hm
    have e : n = m := nI_inj (by omega) (by omega) e
    subst e
    exact hv
  conv => whnf
  refine ⟨⟨_, _, _, rfl, rfl, trivial⟩, ?_⟩
  intro r hr
  obtain rfl : r = bI (okS p n) := hr
  conv => whnf
  refine ⟨fun h => ?_, fun h => ?_⟩
  · exact fin _ (if_neg (bI_0 h)).symm
  · have hO := bI_n h
    have hv := okS_vp hO hn (by omega)
    conv => whnf
    refine ⟨fun h0 => ?_, fun h0 => ?_⟩
    · conv => whnf
      refine ⟨hv, ?_⟩
      conv => whnf
      exact fin _ (by rw [if_pos hO, if_pos h0])
    · conv => whnf
      refine ⟨fun h1 => ?_, fun h1 => ?_⟩
      · conv => whnf
        refine ⟨hv, ?_⟩
        conv => whnf
        exact fin _ (by rw [if_pos hO, if_neg h0, if_pos h1])
      · conv => whnf
        refine ⟨fun h2 => ?_, fun h2 => ?_⟩
        · conv => whnf
          refine ⟨hv, ?_⟩
          conv => whnf
          exact fin _ (by rw [if_pos hO, if_neg h0, if_neg h1, if_pos h2])
        · conv => whnf
          refine ⟨fun h3 => ?_, fun h3 => ?_⟩
          · conv => whnf
            refine ⟨hv, ?_⟩
            obtain ⟨i, hi, rfl⟩ := okS_nat hO (by omega)
            have hci : (nI i).toNatClampNeg = i := nI_clamp (by omega)
            obtain ⟨f, hf1, hf2⟩ := vp_in_of (hfi i hi) (by omega)
            have hcf : (fi i).toNatClampNeg = f := by rw [hf2]; exact nI_clamp (by omega)
            rw [hci, hcf] at fin
            conv => whnf
            refine ⟨⟨sg, 0, po, re, nw, si, nI n, tr, bo, pn, ca, sp, co, f, 1, (by show [_, Value.int (fi (nI i).toNatClampNeg), _] = _; rw [hci, hf2]; rfl), rfl, hf1, by omega⟩, ?_⟩
            intro r hr
            have hr : r = sg (6 * f + 1) := hr f 1 (by show fi (nI i).toNatClampNeg = _; rw [hci, hf2]) rfl hf1 (by omega)
            subst hr
            conv => whnf
            exact fin _ (by rw [if_pos hO, if_neg h0, if_neg h1, if_neg h2, if_pos h3])
          · exact fin _ (by rw [if_pos hO, if_neg h0, if_neg h1, if_neg h2, if_neg h3])
theorem rv_X7_track : rz_Rv yX7_track.cls ce_X7_track := fun av w h => by
  obtain ⟨_, _, _, _, _, _, _, _, _, _, _, _, _, _, _, _, _, _, rfl, rfl, _⟩ := h
  exact ⟨_, _, _, _, _, _, rfl, rfl, rfl⟩
theorem cn_X7_track (l : Launch) : rz_Con l yX7_track cX7_track 3 (some .int) 1 0 0 ce_X7_track := rz_con (by decide +kernel) fo_X7 (by
  intro q hq
  rcases List.mem_cons.mp hq with rfl | hq
  · exact rz_callS (cn_X7_isIn l) (by decide +kernel) ⟨Nat.le_of_ble_eq_true rfl, Nat.le_of_ble_eq_true rfl⟩ m_X7_isIn t_X7_isIn n_X7_87
  exact absurd hq List.not_mem_nil) (by
  intro q hq
  rcases List.mem_cons.mp hq with rfl | hq
  · exact rz_callV (cn_X7_of l) (by decide +kernel) ⟨Nat.le_of_ble_eq_true rfl, Nat.le_of_ble_eq_true rfl⟩ m_X7_of rfl i_X7_of v_X7_of rv_X7_of n_X7_119
  exact absurd hq List.not_mem_nil) r_X7_track vc_X7_track
def ce_X7_plot : rz_K := (3, kMq, 0, false, ce_X7_meets.2.2.2.2.1, fun av w o w' => ∀ n, rF w 50 10 = nI n → n ≤ 100 → ∃ (A' B' C' X' Y' D' : Nat → Int64) (k : Int32), mmR (rI w 51) (rI w 52) (rI w 57) n (rJ w 67) (rJ w 68) (rJ w 69) (rJ w 70) (rJ w 71) (rJ w 72) (rF w 50 33) (rA av 1) (rA av 2) (rR o) A' B' C' X' Y' D' k ∧ w' = sMq (mset w 0 0) A' B' C' X' Y' D' k)
def cl_X7_plot : List (Nat × rz_K) := []
def cv_X7_plot : List (Nat × rz_K) := [(150, ce_X7_meets)]
theorem vc_X7_plot : rz_VC k_X7_plot fl_X7 cl_X7_plot cv_X7_plot s_X7_plot false 3 ce_X7_plot := by
  intro av w hlen hk hpre
  obtain ⟨px, py, sg, A, B, C, X, Y, D, th, po, re, nw, pl, tr, bo, pn, ca, sp, co, x, y, n, rfl, rfl, hn, hsg⟩ := hpre
  refine ⟨Nat.le_of_ble_eq_true rfl, [], 60, 0, fun q h => absurd h List.not_mem_nil, ?_⟩
  conv => whnf
  refine ⟨⟨px, py, sg, A, B, C, X, Y, D, 0, po, re, nw, pl, tr, bo, pn, ca, sp, co, x, y, n, rfl, rfl, hn, hsg⟩, ?_⟩
  intro r wc hwc
  obtain ⟨A', B', C', X', Y', D', k, h1, hw⟩ := hwc n rfl hn
  have hw : wc = wMq (oMo 0 po re nw (nI n) pl tr bo pn ca sp k) px py sg A' B' C' X' Y' D' := hw
  subst hw
  have e : rz_back (wMq (oMo 0 po re nw (nI n) pl tr bo pn ca sp co) px py sg A B C X Y D) (wMq (oMo 0 po re nw (nI n) pl tr bo pn ca sp k) px py sg A' B' C' X' Y' D') = wMq (oMo 0 po re nw (nI n) pl tr bo pn ca sp k) px py sg A' B' C' X' Y' D' := rz_back_pre (w := wMq (oMo 0 po re nw (nI n) pl tr bo pn ca sp co) px py sg A B C X Y D) (q := []) rfl (show kMq.Nodup by decide +kernel)
  conv => whnf
  refine ⟨⟨_, rfl⟩, fun z => (by cases z), ?_⟩
  intro n' e1 g1
  have e1 : n = n' := nI_inj (by omega) (by omega) e1
  subst e1
  exact ⟨A', B', C', X', Y', D', k, h1, e⟩
theorem rv_X7_plot : rz_Rv yX7_plot.cls ce_X7_plot := fun av w h => by
  obtain ⟨_, _, _, _, _, _, _, _, _, _, _, _, _, _, _, _, _, _, _, _, _, _, _, rfl, rfl, _⟩ := h
  exact ⟨_, _, _, _, _, _, rfl, rfl, rfl⟩
theorem cn_X7_plot (l : Launch) : rz_Con l yX7_plot cX7_plot 3 (some .int) 4 0 0 ce_X7_plot := rz_con (by decide +kernel) fo_X7 (fun _ h => absurd h List.not_mem_nil) (by
  intro q hq
  rcases List.mem_cons.mp hq with rfl | hq
  · exact rz_callV (cn_X7_meets l) (by decide +kernel) ⟨Nat.le_of_ble_eq_true rfl, Nat.le_of_ble_eq_true rfl⟩ m_X7_meets rfl i_X7_meets v_X7_meets rv_X7_meets n_X7_150
  exact absurd hq List.not_mem_nil) r_X7_plot vc_X7_plot
def ce_X7_corners : rz_K := (3, kMq, 0, false, ce_X7_meets.2.2.2.2.1, fun av w o w' => ∀ n, rF w 50 10 = nI n → n ≤ 100 → ∃ (A' B' C' X' Y' D' : Nat → Int64) (k r : Int32), mmR (rI w 51) (rI w 52) (rI w 57) n (rJ w 67) (rJ w 68) (rJ w 69) (rJ w 70) (rJ w 71) (rJ w 72) (rF w 50 33) (rA av 1) (rA av 2) r A' B' C' X' Y' D' k ∧ rR o = (if r = 1 then k else -1) ∧ w' = sMq (mset w 0 0) A' B' C' X' Y' D' k)
def cl_X7_corners : List (Nat × rz_K) := []
def cv_X7_corners : List (Nat × rz_K) := [(150, ce_X7_meets)]
theorem vc_X7_corners : rz_VC k_X7_corners fl_X7 cl_X7_corners cv_X7_corners s_X7_corners false 3 ce_X7_corners := by
  intro av w hlen hk hpre
  obtain ⟨px, py, sg, A, B, C, X, Y, D, th, po, re, nw, pl, tr, bo, pn, ca, sp, co, x, y, n, rfl, rfl, hn, hsg⟩ := hpre
  refine ⟨Nat.le_of_ble_eq_true rfl, [], 60, 0, fun q h => absurd h List.not_mem_nil, ?_⟩
  conv => whnf
  refine ⟨⟨px, py, sg, A, B, C, X, Y, D, 0, po, re, nw, pl, tr, bo, pn, ca, sp, co, x, y, n, rfl, rfl, hn, hsg⟩, ?_⟩
  intro r wc hwc
  obtain ⟨A', B', C', X', Y', D', k, h1, hw⟩ := hwc n rfl hn
  have hw : wc = wMq (oMo 0 po re nw (nI n) pl tr bo pn ca sp k) px py sg A' B' C' X' Y' D' := hw
  have h1 : mmR px py sg n A B C X Y D co x y r A' B' C' X' Y' D' k := h1
  subst hw
  have e : rz_back (wMq (oMo 0 po re nw (nI n) pl tr bo pn ca sp co) px py sg A B C X Y D) (wMq (oMo 0 po re nw (nI n) pl tr bo pn ca sp k) px py sg A' B' C' X' Y' D') = wMq (oMo 0 po re nw (nI n) pl tr bo pn ca sp k) px py sg A' B' C' X' Y' D' := rz_back_pre (w := wMq (oMo 0 po re nw (nI n) pl tr bo pn ca sp co) px py sg A B C X Y D) (q := []) rfl (show kMq.Nodup by decide +kernel)
  have fin : ∀ v : Int32, v = (if r = 1 then k else -1) → rz_end ce_X7_corners [.ref 50, .int x, .int y] (wMq (oMo th po re nw (nI n) pl tr bo pn ca sp co) px py sg A B C X Y D) (some (.int v)) (wMq (oMo 0 po re nw (nI n) pl tr bo pn ca sp k) px py sg A' B' C' X' Y' D') := by
    intro v hv
    refine ⟨⟨_, rfl⟩, fun z => (by cases z), ?_⟩
    intro n' e1 g1
    have e1 : n = n' := nI_inj (by omega) (by omega) e1
    subst e1
    exact ⟨A', B', C', X', Y', D', k, r, h1, hv, rfl⟩
  rw [← e] at fin
  conv => whnf
  refine ⟨fun h2 => ?_, fun h2 => ?_⟩
  · exact fin _ (if_pos h2).symm
  · exact fin _ (if_neg h2).symm
theorem rv_X7_corners : rz_Rv yX7_corners.cls ce_X7_corners := fun av w h => by
  obtain ⟨_, _, _, _, _, _, _, _, _, _, _, _, _, _, _, _, _, _, _, _, _, _, _, rfl, rfl, _⟩ := h
  exact ⟨_, _, _, _, _, _, rfl, rfl, rfl⟩
theorem cn_X7_corners (l : Launch) : rz_Con l yX7_corners cX7_corners 3 (some .int) 4 0 0 ce_X7_corners := rz_con (by decide +kernel) fo_X7 (fun _ h => absurd h List.not_mem_nil) (by
  intro q hq
  rcases List.mem_cons.mp hq with rfl | hq
  · exact rz_callV (cn_X7_meets l) (by decide +kernel) ⟨Nat.le_of_ble_eq_true rfl, Nat.le_of_ble_eq_true rfl⟩ m_X7_meets rfl i_X7_meets v_X7_meets rv_X7_meets n_X7_150
  exact absurd hq List.not_mem_nil) r_X7_corners vc_X7_corners
end
section
/-! The reference's boxOf, box. -/
theorem minR_P {P : Int64 → Int64 → Int64 → Prop} {X Y D : Nat → Int64} {n : Nat} {x y d : Int64} {X' Y' D' : Nat → Int64} {n' : Nat} (h : minR X Y D n x y d X' Y' D' n') (h0 : ∀ i, i < n → P (X i) (Y i) (D i)) (h1 : P x y d) : ∀ i, i < n' → P (X' i) (Y' i) (D' i) := by
  obtain ⟨t, a1, a2, a3, a4⟩ := h
  by_cases z : t < n ∧ orF X D Y D t x y d = 0
  · obtain ⟨rfl, rfl, rfl, rfl⟩ := if_y a4 z
    exact h0
  · obtain ⟨rfl, rfl, rfl, rfl⟩ := if_n a4 z
    intro i hi
    unfold insA
    by_cases g1 : i < t
    · rw [if_pos g1, if_pos g1, if_pos g1]; exact h0 i (by omega)
    · rw [if_neg g1, if_neg g1, if_neg g1]
      by_cases g2 : i = t
      · rw [if_pos g2, if_pos g2, if_pos g2]; exact h1
      · rw [if_neg g2, if_neg g2, if_neg g2, if_pos (by omega), if_pos (by omega), if_pos (by omega)]
        exact h0 (i - 1) (by omega)
theorem fmS_P {P : Int64 → Int64 → Int64 → Prop} {a b c X Y D : Nat → Int64} (hP : ∀ i j, i < 4 → j < 4 → ¬ crD a b i j = 0 → P (sgn (crD a b i j) (crX b c i j)) (sgn (crD a b i j) (crY a c i j)) (sgn (crD a b i j) (crD a b i j))) : ∀ {s : Nat} {t y m : Nat → Int64} {n : Nat}, s ≤ 6 → fmS a b c X Y D s t y m n → ∀ i, i < n → P (t i) (y i) (m i)
  | 0, _, _, _, _, _, h, i, hi => absurd hi (by rw [h.2.2.2]; omega)
  | s + 1, _, _, _, _, hs, h, i, hi => by
    obtain ⟨t0, y0, m0, n0, h1, h2⟩ := h
    have ih := fmS_P hP (by omega) h1
    have hpp : (pP s).1 < 4 ∧ (pP s).2 < 4 := by
      have : ∀ s, s < 6 → (pP s).1 < 4 ∧ (pP s).2 < 4 := by decide
      exact this s (by omega)
    unfold mcR at h2
    split at h2
    · obtain ⟨rfl, rfl, rfl, rfl⟩ := h2
      exact ih i hi
    · rename_i z
      exact minR_P h2 ih (hP _ _ hpp.1 hpp.2 (fun q => z (Or.inl q))) i hi
theorem sgn_ne {d : Int64} (h : ¬ d = 0) : ¬ sgn d d = 0 := fun z => by
  unfold sgn at z
  split at z
  · exact h (by have := congrArg (fun x => -x) z; simpa using this)
  · exact h z
def rnR (px py sg : Nat → Int32) (i j : Nat) (X' Y' D' : Nat → Int64) (q : Nat) : Prop := ∃ A B C X Y D A' B' C' : Nat → Int64, A' = bdF (bvA sg j) 2 (bdF (bvA sg i) 0 A 2) 2 ∧ B' = bdF (bvB sg j) 2 (bdF (bvB sg i) 0 B 2) 2 ∧ C' = bdF (bvC sg px py j) 2 (bdF (bvC sg px py i) 0 C 2) 2 ∧ fmS A' B' C' X Y D 6 X' Y' D' q
theorem rnR_D {px py sg : Nat → Int32} {i j : Nat} {X' Y' D' : Nat → Int64} {q : Nat} (h : rnR px py sg i j X' Y' D' q) : ∀ k, k < q → ¬ D' k = 0 := by
  obtain ⟨A, B, C, X, Y, D, A', B', C', -, -, -, h⟩ := h
  exact fmS_P (P := fun _ _ d => ¬ d = 0) (fun i j _ _ h => sgn_ne h) (Nat.le_refl 6) h
theorem mmR_rn {px py sg : Nat → Int32} {n : Nat} {A B C X Y D : Nat → Int64} {co x y r : Int32} {A' B' C' X' Y' D' : Nat → Int64} {k : Int32} (h : mmR px py sg n A B C X Y D co x y r A' B' C' X' Y' D' k) (ok : paP px py sg n x y) : ∃ q, k = nI q ∧ q ≤ 6 ∧ rnR px py sg x.toNatClampNeg y.toNatClampNeg X' Y' D' q := by
  obtain ⟨h1, h2, h3, q, h4, h5, -⟩ := if_y h ok
  exact ⟨q, h4, fmS_n h5, A, B, C, X, Y, D, A', B', C', h1, h2, h3, h5⟩
theorem mmR_ok {px py sg : Nat → Int32} {n : Nat} {A B C X Y D : Nat → Int64} {co x y r : Int32} {A' B' C' X' Y' D' : Nat → Int64} {k : Int32} (h : mmR px py sg n A B C X Y D co x y r A' B' C' X' Y' D' k) (hr : r = 1) : paP px py sg n x y := by
  by_cases ok : paP px py sg n x y
  · exact ok
  · have := (if_n h ok).1
    rw [hr] at this
    exact absurd this (by decide)
def mnF (f g : Nat → Int64) : Nat → Int64
  | 0 => fdv (f 0) (g 0)
  | k + 1 => if fdv (f (k + 1)) (g (k + 1)) < mnF f g k then fdv (f (k + 1)) (g (k + 1)) else mnF f g k
def mxF (f g : Nat → Int64) : Nat → Int64
  | 0 => -fdv (-f 0) (g 0)
  | k + 1 => if mxF f g k < -fdv (-f (k + 1)) (g (k + 1)) then -fdv (-f (k + 1)) (g (k + 1)) else mxF f g k
def bx4 (bx : Nat → Int64) (a b c d : Int64) : Nat → Int64 := fun i => if i = 0 then a else if i = 1 then b else if i = 2 then c else if i = 3 then d else bx i
theorem bx4_of {f bx : Nat → Int64} (a b c d : Int64) (h : ∀ i, 4 ≤ i → f i = bx i) : vp_updL (vp_updL (vp_updL (vp_updL f 0 a) 1 b) 2 c) 3 d = bx4 bx a b c d := by
  funext i
  unfold vp_updL bx4
  by_cases h0 : i = 0
  · subst h0; rfl
  by_cases h1 : i = 1
  · subst h1; rfl
  by_cases h2 : i = 2
  · subst h2; rfl
  by_cases h3 : i = 3
  · subst h3; rfl
  rw [if_neg h3, if_neg h2, if_neg h1, if_neg h0, if_neg h0, if_neg h1, if_neg h2, if_neg h3]
  exact h i (by omega)
def bxN (X Y D bx : Nat → Int64) : Nat → Nat → Int64
  | 0 => bx
  | k + 1 => bx4 bx (mnF X D k) (mnF Y D k) (mxF X D k) (mxF Y D k)
abbrev wMy (o : rz_C) (px py sg : Nat → Int32) (A B C X Y D bx : Nat → Int64) : rz_W := [(50, o), (51, ri 6 px), (52, ri 6 py), (57, ri 600 sg), (67, rl 4 A), (68, rl 4 B), (69, rl 4 C), (70, rl 8 X), (71, rl 8 Y), (72, rl 8 D), (73, rl 4 bx)]
abbrev kMy : List Nat := [50, 51, 52, 57, 67, 68, 69, 70, 71, 72, 73]
def ce_X7_boxOf : rz_K := (3, kMy, 2, false, fun av w => ∃ (px py sg : Nat → Int32) (A B C X Y D bx : Nat → Int64) (th po re nw pl tr bo pn ca sp co x y : Int32) (n : Nat), av = [.ref 50, .int x, .int y] ∧ w = wMy (oMo th po re nw (nI n) pl tr bo pn ca sp co) px py sg A B C X Y D bx ∧ n ≤ 100 ∧ (∀ i, i < n → vp_in (sg (6 * i + 0)) 6) ∧ paP px py sg n x y, fun av w _ w' => ∃ (A' B' C' X' Y' D' : Nat → Int64) (q : Nat), q ≤ 6 ∧ rnR (rI w 51) (rI w 52) (rI w 57) (rA av 1).toNatClampNeg (rA av 2).toNatClampNeg X' Y' D' q ∧ w' = rz_set (sMq w A' B' C' X' Y' D' (nI q)) 73 (rl 4 (bxN X' Y' D' (rJ w 73) q)))
def cl_X7_boxOf : List (Nat × rz_K) := [(163, ce_J9_floorDiv_f86c9), (166, ce_J9_min_f86c9), (169, ce_J9_max_f86c9)]
def cv_X7_boxOf : List (Nat × rz_K) := [(150, ce_X7_meets)]
set_option maxHeartbeats 8000000 in
theorem vc_X7_boxOf : rz_VC k_X7_boxOf fl_X7 cl_X7_boxOf cv_X7_boxOf s_X7_boxOf false 13 ce_X7_boxOf := by
  intro av w hlen hk hpre
  obtain ⟨px, py, sg, A, B, C, X, Y, D, bx, th, po, re, nw, pl, tr, bo, pn, ca, sp, co, x, y, n, rfl, rfl, hn, hsg, ok⟩ := hpre
  have b0 : vp_in 0 4 := vp_in_iff.mpr (by decide)
  have b1 : vp_in 1 4 := vp_in_iff.mpr (by decide)
  have b2 : vp_in 2 4 := vp_in_iff.mpr (by decide)
  have b3 : vp_in 3 4 := vp_in_iff.mpr (by decide)
  refine ⟨Nat.le_of_ble_eq_true rfl, [
    (10, [0, 1, 2, 4], fun z lv w' => ∃ (A' B' C' X' Y' D' : Nat → Int64) (q k : Nat), q ≤ 6 ∧ k ≤ q ∧ rnR px py sg x.toNatClampNeg y.toNatClampNeg X' Y' D' q ∧ lv = [(0, .ref 50), (1, .int x), (2, .int y), (4, .int (nI k))] ∧ w' = wMy (oMo th po re nw (nI n) pl tr bo pn ca sp (nI q)) px py sg A' B' C' X' Y' D' (bxN X' Y' D' bx k) ∧ z = q - k)], 130, 10, ?_, ?_⟩
  · intro y1 hq1 z lv w' hJ
    rcases List.mem_cons.mp hq1 with rfl | hq1
    · obtain ⟨A', B', C', X', Y', D', q, k, hq6, hkq, hrn, rfl, rfl, rfl⟩ := hJ
      conv => whnf
      refine ⟨fun h => ?_, fun h => ?_⟩
      · have e : k = q := by
          have := (nI_leI (by omega) (by omega)).mp h
          omega
        subst e
        exact ⟨rfl, fun z => (by cases z), A', B', C', X', Y', D', k, hq6, hrn, rfl⟩
      · have hk2 : k < q := by
          rcases Nat.lt_or_ge k q with z | z
          · exact z
          · exact absurd (nI_le z (by omega)) h
        have hcl : (nI k).toNatClampNeg = k := nI_clamp (by omega)
        have hv : vp_in (nI k) 8 := vp_in_nI (by omega) (by omega)
        have hD : ¬ D' (nI k).toNatClampNeg = 0 := by rw [hcl]; exact rnR_D hrn k hk2
        conv => whnf
        refine ⟨hv, ?_⟩
        conv => whnf
        refine ⟨hv, ?_⟩
        conv => whnf
        refine ⟨⟨_, _, rfl, rfl, hD⟩, ?_⟩
        intro v0 hv0
        have hv0 : v0 = fdv (X' (nI k).toNatClampNeg) (D' (nI k).toNatClampNeg) := hv0
        rw [hcl] at hv0
        conv => whnf
        intro v_ ev_
        have ev_ := ev_.symm
        subst ev_
        conv => whnf
        refine ⟨hv, ?_⟩
        conv => whnf
        refine ⟨hv, ?_⟩
        conv => whnf
        refine ⟨⟨_, _, rfl, rfl, hD⟩, ?_⟩
        intro v1 hv1
        have hv1 : v1 = fdv (Y' (nI k).toNatClampNeg) (D' (nI k).toNatClampNeg) := hv1
        rw [hcl] at hv1
        conv => whnf
        intro v_ ev_
        have ev_ := ev_.symm
        subst ev_
        conv => whnf
        refine ⟨hv, ?_⟩
        conv => whnf
        refine ⟨hv, ?_⟩
        conv => whnf
        refine ⟨⟨_, _, rfl, rfl, hD⟩, ?_⟩
        intro u2 hu2
        have hu2 : u2 = fdv (-X' (nI k).toNatClampNeg) (D' (nI k).toNatClampNeg) := hu2
        rw [hcl] at hu2
        conv => whnf
        intro v2 ev2
        conv => whnf
        refine ⟨hv, ?_⟩
        conv => whnf
        refine ⟨hv, ?_⟩
        conv => whnf
        refine ⟨⟨_, _, rfl, rfl, hD⟩, ?_⟩
        intro u3 hu3
        have hu3 : u3 = fdv (-Y' (nI k).toNatClampNeg) (D' (nI k).toNatClampNeg) := hu3
        rw [hcl] at hu3
        conv => whnf
        intro v3 ev3
        have ev2 : v2 = -fdv (-X' k) (D' k) := by rw [ev2]; show -u2 = _; rw [hu2]
        have ev3 : v3 = -fdv (-Y' k) (D' k) := by rw [ev3]; show -u3 = _; rw [hu3]
        cases k with
        | zero =>
          conv => whnf
          refine ⟨fun g0 => ?_, fun g0 => ?_⟩
          rotate_left
          · exact absurd rfl g0
          conv => whnf
          refine ⟨b0, ?_⟩
          conv => whnf
          refine ⟨fun g1 => ?_, fun g1 => ?_⟩
          rotate_left
          · exact absurd rfl g1
          conv => whnf
          refine ⟨b1, ?_⟩
          conv => whnf
          refine ⟨fun g2 => ?_, fun g2 => ?_⟩
          rotate_left
          · exact absurd rfl g2
          conv => whnf
          refine ⟨b2, ?_⟩
          conv => whnf
          refine ⟨fun g3 => ?_, fun g3 => ?_⟩
          rotate_left
          · exact absurd rfl g3
          conv => whnf
          refine ⟨b3, ?_⟩
          conv => whnf
          rintro _ rfl
          conv => whnf
          refine ⟨q - 1, by omega, A', B', C', X', Y', D', q, 1, hq6, by omega, hrn, rfl, ?_, rfl⟩
          show wMy (oMo th po re nw (nI n) pl tr bo pn ca sp (nI q)) px py sg A' B' C' X' Y' D' (vp_updL (vp_updL (vp_updL (vp_updL bx 0 v0) 1 v1) 2 v2) 3 v3) = _
          rw [bx4_of v0 v1 v2 v3 (fun _ _ => rfl), hv0, hv1, ev2, ev3]
          rfl
        | succ k =>
          have hne : ¬ nI (k + 1) = 0 := fun z => by
            have z : nI (k + 1) = nI 0 := z
            have := nI_inj (by omega) (by omega) z
            omega
          conv => whnf
          refine ⟨fun g0 => ?_, fun g0 => ?_⟩
          · exact absurd g0 hne
          conv => whnf
          refine ⟨b0, ?_⟩
          conv => whnf
          refine ⟨⟨_, _, rfl, rfl, trivial⟩, ?_⟩
          intro w0 hw0
          have hw0 : w0 = if v0 < mnF X' D' k then v0 else mnF X' D' k := hw0
          have hw0 : w0 = mnF X' D' (k + 1) := by rw [hw0, hv0]; rfl
          conv => whnf
          refine ⟨b0, ?_⟩
          conv => whnf
          refine ⟨fun g1 => ?_, fun g1 => ?_⟩
          · exact absurd g1 hne
          conv => whnf
          refine ⟨b1, ?_⟩
          conv => whnf
          refine ⟨⟨_, _, rfl, rfl, trivial⟩, ?_⟩
          intro w1 hw1
          have hw1 : w1 = if v1 < mnF Y' D' k then v1 else mnF Y' D' k := hw1
          have hw1 : w1 = mnF Y' D' (k + 1) := by rw [hw1, hv1]; rfl
          conv => whnf
          refine ⟨b1, ?_⟩
          conv => whnf
          refine ⟨fun g2 => ?_, fun g2 => ?_⟩
          · exact absurd g2 hne
          conv => whnf
          refine ⟨b2, ?_⟩
          conv => whnf
          refine ⟨⟨_, _, rfl, rfl, trivial⟩, ?_⟩
          intro w2 hw2
          have hw2 : w2 = if mxF X' D' k < v2 then v2 else mxF X' D' k := hw2
          have hw2 : w2 = mxF X' D' (k + 1) := by rw [hw2, ev2]; rfl
          conv => whnf
          refine ⟨b2, ?_⟩
          conv => whnf
          refine ⟨fun g3 => ?_, fun g3 => ?_⟩
          · exact absurd g3 hne
          conv => whnf
          refine ⟨b3, ?_⟩
          conv => whnf
          refine ⟨⟨_, _, rfl, rfl, trivial⟩, ?_⟩
          intro w3 hw3
          have hw3 : w3 = if mxF Y' D' k < v3 then v3 else mxF Y' D' k := hw3
          have hw3 : w3 = mxF Y' D' (k + 1) := by rw [hw3, ev3]; rfl
          conv => whnf
          refine ⟨b3, ?_⟩
          conv => whnf
          rintro _ rfl
          conv => whnf
          refine ⟨q - (k + 1 + 1), by omega, A', B', C', X', Y', D', q, k + 1 + 1, hq6, by omega, hrn, ?_, ?_, rfl⟩
          · show [_, _, _, (4, Value.int (nI (k + 1) + 1))] = _
            rw [nI_1]
          · show wMy (oMo th po re nw (nI n) pl tr bo pn ca sp (nI q)) px py sg A' B' C' X' Y' D' (vp_updL (vp_updL (vp_updL (vp_updL (bxN X' Y' D' bx (k + 1)) 0 w0) 1 w1) 2 w2) 3 w3) = _
            rw [bx4_of (bx := bx) w0 w1 w2 w3 (fun i hi => by show bx4 bx _ _ _ _ i = _; unfold bx4; rw [if_neg (by omega), if_neg (by omega), if_neg (by omega), if_neg (by omega)]), hw0, hw1, hw2, hw3]
            rfl
    · exact absurd hq1 List.not_mem_nil
  · conv => whnf
    refine ⟨⟨px, py, sg, A, B, C, X, Y, D, th, po, re, nw, pl, tr, bo, pn, ca, sp, co, x, y, n, rfl, rfl, hn, hsg⟩, ?_⟩
    intro r wc hwc
    obtain ⟨A', B', C', X', Y', D', k, h1, hw⟩ := hwc n rfl hn
    have hw : wc = wMq (oMo th po re nw (nI n) pl tr bo pn ca sp k) px py sg A' B' C' X' Y' D' := hw
    have h1 : mmR px py sg n A B C X Y D co x y r A' B' C' X' Y' D' k := h1
    obtain ⟨q, rfl, hq6, hrn⟩ := mmR_rn h1 ok
    subst hw
    conv => whnf
    rintro _ rfl
    conv => whnf
    rintro _ rfl
    conv => whnf
    refine ⟨q - 0, by omega, A', B', C', X', Y', D', q, 0, hq6, by omega, hrn, rfl, rfl, rfl⟩
theorem rv_X7_boxOf : rz_Rv yX7_boxOf.cls ce_X7_boxOf := fun av w h => by
  obtain ⟨_, _, _, _, _, _, _, _, _, _, _, _, _, _, _, _, _, _, _, _, _, _, _, _, rfl, rfl, _⟩ := h
  exact ⟨_, _, _, _, _, _, rfl, rfl, rfl⟩
theorem cn_X7_boxOf (l : Launch) : rz_Con l yX7_boxOf cX7_boxOf 13 none 4 0 0 ce_X7_boxOf := rz_con (by decide +kernel) fo_X7 (by
  intro q hq
  rcases List.mem_cons.mp hq with rfl | hq
  · exact rz_callS (cn_J9_floorDiv_f86c9 l) (by decide +kernel) ⟨Nat.le_of_ble_eq_true rfl, Nat.le_of_ble_eq_true rfl⟩ m_J9_floorDiv_f86c9 t_J9_floorDiv_f86c9 n_X7_163
  rcases List.mem_cons.mp hq with rfl | hq
  · exact rz_callS (cn_J9_min_f86c9 l) (by decide +kernel) ⟨Nat.le_of_ble_eq_true rfl, Nat.le_of_ble_eq_true rfl⟩ m_J9_min_f86c9 t_J9_min_f86c9 n_X7_166
  rcases List.mem_cons.mp hq with rfl | hq
  · exact rz_callS (cn_J9_max_f86c9 l) (by decide +kernel) ⟨Nat.le_of_ble_eq_true rfl, Nat.le_of_ble_eq_true rfl⟩ m_J9_max_f86c9 t_J9_max_f86c9 n_X7_169
  exact absurd hq List.not_mem_nil) (by
  intro q hq
  rcases List.mem_cons.mp hq with rfl | hq
  · exact rz_callV (cn_X7_meets l) (by decide +kernel) ⟨Nat.le_of_ble_eq_true rfl, Nat.le_of_ble_eq_true rfl⟩ m_X7_meets rfl i_X7_meets v_X7_meets rv_X7_meets n_X7_150
  exact absurd hq List.not_mem_nil) r_X7_boxOf vc_X7_boxOf
def ce_X7_box : rz_K := (4, kMy, 0, false, fun av w => ∃ (px py sg : Nat → Int32) (A B C X Y D bx : Nat → Int64) (th po re nw pl tr bo pn ca sp co x y u : Int32) (n : Nat), av = [.ref 50, .int x, .int y, .int u] ∧ w = wMy (oMo th po re nw (nI n) pl tr bo pn ca sp co) px py sg A B C X Y D bx ∧ n ≤ 100 ∧ (∀ i, i < n → vp_in (sg (6 * i + 0)) 6), fun av w o w' => ∀ n, rF w 50 10 = nI n → n ≤ 100 → ∃ (A' B' C' X' Y' D' : Nat → Int64) (k r : Int32), mmR (rI w 51) (rI w 52) (rI w 57) n (rJ w 67) (rJ w 68) (rJ w 69) (rJ w 70) (rJ w 71) (rJ w 72) (rF w 50 33) (rA av 1) (rA av 2) r A' B' C' X' Y' D' k ∧ if r = 1 ∧ (0 ≤ rA av 3 ∧ rA av 3 ≤ 3) then ∃ (A2 B2 C2 X2 Y2 D2 : Nat → Int64) (q : Nat), rnR (rI w 51) (rI w 52) (rI w 57) (rA av 1).toNatClampNeg (rA av 2).toNatClampNeg X2 Y2 D2 q ∧ w' = rz_set (sMq (mset w 0 0) A2 B2 C2 X2 Y2 D2 (nI q)) 73 (rl 4 (bxN X2 Y2 D2 (rJ w 73) q)) ∧ rR o = (bxN X2 Y2 D2 (rJ w 73) q (rA av 3).toNatClampNeg).toInt32 else rR o = 0 ∧ w' = sMq (mset w 0 1) A' B' C' X' Y' D' k)
def cl_X7_box : List (Nat × rz_K) := [(87, ce_X7_isIn)]
def cv_X7_box : List (Nat × rz_K) := [(150, ce_X7_meets), (172, ce_X7_boxOf)]
set_option maxHeartbeats 8000000 in
theorem vc_X7_box : rz_VC k_X7_box fl_X7 cl_X7_box cv_X7_box s_X7_box false 4 ce_X7_box := by
  intro av w hlen hk hpre
  obtain ⟨px, py, sg, A, B, C, X, Y, D, bx, th, po, re, nw, pl, tr, bo, pn, ca, sp, co, x, y, u, n, rfl, rfl, hn, hsg⟩ := hpre
  refine ⟨Nat.le_of_ble_eq_true rfl, [
    (28, [0, 1, 2, 3], fun z lv w' => ∃ (A' B' C' X' Y' D' : Nat → Int64) (k r t : Int32), mmR px py sg n A B C X Y D co x y r A' B' C' X' Y' D' k ∧ ((t = 0 ∧ r = 1 ∧ (0 ≤ u ∧ u ≤ 3)) ∨ (t = 1 ∧ ¬ (r = 1 ∧ (0 ≤ u ∧ u ≤ 3)))) ∧ lv = [(0, .ref 50), (1, .int x), (2, .int y), (3, .int u)] ∧ w' = wMy (oMo t po re nw (nI n) pl tr bo pn ca sp k) px py sg A' B' C' X' Y' D' bx ∧ z = 1),
    (43, [0, 3], fun z lv w' => ∃ (A' B' C' X' Y' D' : Nat → Int64) (k r : Int32), mmR px py sg n A B C X Y D co x y r A' B' C' X' Y' D' k ∧ (r = 1 ∧ (0 ≤ u ∧ u ≤ 3)) ∧ ∃ (A2 B2 C2 X2 Y2 D2 : Nat → Int64) (q : Nat), rnR px py sg x.toNatClampNeg y.toNatClampNeg X2 Y2 D2 q ∧ lv = [(0, .ref 50), (3, .int u)] ∧ w' = wMy (oMo 0 po re nw (nI n) pl tr bo pn ca sp (nI q)) px py sg A2 B2 C2 X2 Y2 D2 (bxN X2 Y2 D2 bx q) ∧ z = 0)], 60, 2, ?_, ?_⟩
  · intro y1 hq1 z lv w' hJ
    rcases List.mem_cons.mp hq1 with rfl | hq1
    · obtain ⟨A', B', C', X', Y', D', k, r, t, h1, ht, rfl, rfl, rfl⟩ := hJ
      conv => whnf
      refine ⟨fun h => ?_, fun h => ?_⟩
      · have ht0 : t = 0 ∧ r = 1 ∧ (0 ≤ u ∧ u ≤ 3) := by
          rcases ht with g | g
          · exact g
          · rw [g.1] at h
            exact absurd h (by decide)
        obtain ⟨rfl, hr, hu⟩ := ht0
        have ok := mmR_ok h1 hr
        conv => whnf
        refine ⟨⟨px, py, sg, A', B', C', X', Y', D', bx, 0, po, re, nw, pl, tr, bo, pn, ca, sp, k, x, y, n, rfl, rfl, hn, hsg, ok⟩, ?_⟩
        intro wc hwc
        obtain ⟨A2, B2, C2, X2, Y2, D2, q, hq6, hrn, hw⟩ := hwc
        have hw : wc = wMy (oMo 0 po re nw (nI n) pl tr bo pn ca sp (nI q)) px py sg A2 B2 C2 X2 Y2 D2 (bxN X2 Y2 D2 bx q) := hw
        have hrn : rnR px py sg x.toNatClampNeg y.toNatClampNeg X2 Y2 D2 q := hrn
        subst hw
        conv => whnf
        refine ⟨0, by omega, A', B', C', X', Y', D', k, r, h1, ⟨hr, hu⟩, A2, B2, C2, X2, Y2, D2, q, hrn, rfl, rfl, rfl⟩
      · have ht0 : t = 1 ∧ ¬ (r = 1 ∧ (0 ≤ u ∧ u ≤ 3)) := by
          rcases ht with g | g
          · rw [g.1] at h
            exact absurd (by decide) h
          · exact g
        obtain ⟨rfl, hno⟩ := ht0
        refine ⟨⟨_, rfl⟩, fun z => (by cases z), ?_⟩
        intro n' e1 g1
        have e1 : n = n' := nI_inj (by omega) (by omega) e1
        subst e1
        exact ⟨A', B', C', X', Y', D', k, r, h1, if_no hno ⟨rfl, rfl⟩⟩
    rcases List.mem_cons.mp hq1 with rfl | hq1
    · obtain ⟨A', B', C', X', Y', D', k, r, h1, hru, A2, B2, C2, X2, Y2, D2, q, hrn, rfl, rfl, rfl⟩ := hJ
      have hv : vp_in u 4 := vp_of2 hru.2.1 hru.2.2 rfl
      conv => whnf
      refine ⟨hv, ?_⟩
      conv => whnf
      refine ⟨⟨_, rfl⟩, fun z => (by cases z), ?_⟩
      intro n' e1 g1
      have e1 : n = n' := nI_inj (by omega) (by omega) e1
      subst e1
      exact ⟨A', B', C', X', Y', D', k, r, h1, if_yes hru ⟨A2, B2, C2, X2, Y2, D2, q, hrn, rfl, rfl⟩⟩
    · exact absurd hq1 List.not_mem_nil
  · conv => whnf
    refine ⟨⟨px, py, sg, A, B, C, X, Y, D, th, po, re, nw, pl, tr, bo, pn, ca, sp, co, x, y, n, rfl, rfl, hn, hsg⟩, ?_⟩
    intro r wc hwc
    obtain ⟨A', B', C', X', Y', D', k, h1, hw⟩ := hwc n rfl hn
    have hw : wc = wMq (oMo th po re nw (nI n) pl tr bo pn ca sp k) px py sg A' B' C' X' Y' D' := hw
    have h1 : mmR px py sg n A B C X Y D co x y r A' B' C' X' Y' D' k := h1
    subst hw
    have e : rz_back (wMy (oMo th po re nw (nI n) pl tr bo pn ca sp co) px py sg A B C X Y D bx) (wMq (oMo th po re nw (nI n) pl tr bo pn ca sp k) px py sg A' B' C' X' Y' D') = wMy (oMo th po re nw (nI n) pl tr bo pn ca sp k) px py sg A' B' C' X' Y' D' bx := rz_back_pre (w := wMq (oMo th po re nw (nI n) pl tr bo pn ca sp co) px py sg A B C X Y D) (q := [(73, rl 4 bx)]) rfl (show kMq.Nodup by decide +kernel)
    rw [e]
    conv => whnf
    refine ⟨fun h2 => ?_, fun h2 => ?_⟩
    · have h2 : r = 1 := h2
      conv => whnf
      refine ⟨⟨_, _, _, rfl, rfl, trivial⟩, ?_⟩
      intro r2 hr2
      obtain rfl : r2 = bI (0 ≤ u ∧ u ≤ 3) := hr2
      conv => whnf
      refine ⟨fun h3 => ?_, fun h3 => ?_⟩
      · conv => whnf
        refine ⟨1, by omega, A', B', C', X', Y', D', k, r, 1, h1, Or.inr ⟨rfl, fun z => bI_0 h3 z.2⟩, rfl, rfl, rfl⟩
      · conv => whnf
        refine ⟨1, by omega, A', B', C', X', Y', D', k, r, 0, h1, Or.inl ⟨rfl, h2, bI_n h3⟩, rfl, rfl, rfl⟩
    · conv => whnf
      refine ⟨1, by omega, A', B', C', X', Y', D', k, r, 1, h1, Or.inr ⟨rfl, fun z => h2 z.1⟩, rfl, rfl, rfl⟩
theorem rv_X7_box : rz_Rv yX7_box.cls ce_X7_box := fun av w h => by
  obtain ⟨_, _, _, _, _, _, _, _, _, _, _, _, _, _, _, _, _, _, _, _, _, _, _, _, _, rfl, rfl, _⟩ := h
  exact ⟨_, _, _, _, _, _, rfl, rfl, rfl⟩
theorem cn_X7_box (l : Launch) : rz_Con l yX7_box cX7_box 4 (some .int) 5 0 0 ce_X7_box := rz_con (by decide +kernel) fo_X7 (by
  intro q hq
  rcases List.mem_cons.mp hq with rfl | hq
  · exact rz_callS (cn_X7_isIn l) (by decide +kernel) ⟨Nat.le_of_ble_eq_true rfl, Nat.le_of_ble_eq_true rfl⟩ m_X7_isIn t_X7_isIn n_X7_87
  exact absurd hq List.not_mem_nil) (by
  intro q hq
  rcases List.mem_cons.mp hq with rfl | hq
  · exact rz_callV (cn_X7_meets l) (by decide +kernel) ⟨Nat.le_of_ble_eq_true rfl, Nat.le_of_ble_eq_true rfl⟩ m_X7_meets rfl i_X7_meets v_X7_meets rv_X7_meets n_X7_150
  rcases List.mem_cons.mp hq with rfl | hq
  · exact rz_callV (cn_X7_boxOf l) (by decide +kernel) ⟨Nat.le_of_ble_eq_true rfl, Nat.le_of_ble_eq_true rfl⟩ m_X7_boxOf rfl i_X7_boxOf v_X7_boxOf rv_X7_boxOf n_X7_172
  exact absurd hq List.not_mem_nil) r_X7_box vc_X7_box
end
section
/-! Bounds of crossings; the reference's corner. -/
theorem ab_mul {x y : Int64} (a b : Nat) (hx : x.toInt.natAbs ≤ a) (hy : y.toInt.natAbs ≤ b) (h : a * b < 2 ^ 62) : (x * y).toInt = x.toInt * y.toInt ∧ (x * y).toInt.natAbs ≤ a * b := by
  have h1 : (x.toInt * y.toInt).natAbs ≤ a * b := by rw [Int.natAbs_mul]; exact Nat.mul_le_mul hx hy
  have h2 : (x * y).toInt = x.toInt * y.toInt := by
    rw [Int64.toInt_mul]
    generalize x.toInt * y.toInt = v at *
    generalize a * b = u at *
    exact i64_bm (by omega) (by omega)
  exact ⟨h2, by rw [h2]; exact h1⟩
theorem ab_sub {x y : Int64} (a b : Nat) (hx : x.toInt.natAbs ≤ a) (hy : y.toInt.natAbs ≤ b) (h : a + b < 2 ^ 62) : (x - y).toInt = x.toInt - y.toInt ∧ (x - y).toInt.natAbs ≤ a + b := by
  have h2 : (x - y).toInt = x.toInt - y.toInt := by rw [Int64.toInt_sub]; exact i64_bm (by omega) (by omega)
  exact ⟨h2, by rw [h2]; omega⟩
theorem ab_add {x y : Int64} (a b : Nat) (hx : x.toInt.natAbs ≤ a) (hy : y.toInt.natAbs ≤ b) (h : a + b < 2 ^ 62) : (x + y).toInt = x.toInt + y.toInt ∧ (x + y).toInt.natAbs ≤ a + b := by
  have h2 : (x + y).toInt = x.toInt + y.toInt := by rw [Int64.toInt_add]; exact i64_bm (by omega) (by omega)
  exact ⟨h2, by rw [h2]; omega⟩
theorem ab_neg {x : Int64} (a : Nat) (hx : x.toInt.natAbs ≤ a) (h : a < 2 ^ 62) : (-x).toInt = -x.toInt ∧ (-x).toInt.natAbs ≤ a := by
  have h2 : (-x).toInt = -x.toInt := by rw [Int64.toInt_neg]; exact i64_bm (by omega) (by omega)
  exact ⟨h2, by rw [h2]; omega⟩
def gbS (px py sg : Nat → Int32) (i : Nat) : Prop := (∀ a, a < 4 → (sg (6 * i + (2 + a))).toInt.natAbs ≤ 50) ∧ (mFx px sg i).toInt.natAbs ≤ 2000 ∧ (mFx py sg i).toInt.natAbs ≤ 2000
theorem i32_64 (x : Int32) : x.toInt64.toInt = x.toInt := Int32.toInt_toInt64 x
theorem bv_ab {px py sg : Nat → Int32} {i k : Nat} (h : gbS px py sg i) (hk : k < 2) : (bvA sg i k).toInt.natAbs ≤ 50 ∧ (bvB sg i k).toInt.natAbs ≤ 50 ∧ (bvC sg px py i k).toInt.natAbs ≤ 200000 := by
  have hs : (sgK k).toInt.natAbs ≤ 1 := by
    unfold sgK
    split
    · decide
    · decide
  have e3 : 6 * i + (3 + 2 * k) = 6 * i + (2 + (1 + 2 * k)) := by omega
  have h3 : ((sg (6 * i + (3 + 2 * k))).toInt64).toInt.natAbs ≤ 50 := by rw [e3, i32_64]; exact h.1 _ (by omega)
  have h2 : ((sg (6 * i + (2 + 2 * k))).toInt64).toInt.natAbs ≤ 50 := by rw [i32_64]; exact h.1 _ (by omega)
  have hA := (ab_mul 50 1 (ab_neg 50 h3 (by omega)).2 hs (by omega)).2
  have hB := (ab_mul 50 1 h2 hs (by omega)).2
  have hx : ((mFx px sg i).toInt64).toInt.natAbs ≤ 2000 := by rw [i32_64]; exact h.2.1
  have hy : ((mFx py sg i).toInt64).toInt.natAbs ≤ 2000 := by rw [i32_64]; exact h.2.2
  exact ⟨hA, hB, (ab_add 100000 100000 (ab_mul 50 2000 hA hx (by omega)).2 (ab_mul 50 2000 hB hy (by omega)).2 (by omega)).2⟩
theorem bd4 (u v f : Nat → Int64) {k : Nat} (hk : k < 4) : bdF v 2 (bdF u 0 f 2) 2 k = if k < 2 then u k else v (k - 2) := by
  match k, hk with
  | 0, _ => rfl
  | 1, _ => rfl
  | 2, _ => rfl
  | 3, _ => rfl
def cBd (x y d : Int64) : Prop := x.toInt.natAbs ≤ 20000000 ∧ y.toInt.natAbs ≤ 20000000 ∧ 0 < d.toInt ∧ d.toInt ≤ 5000
theorem sgn_ab {d v : Int64} (a : Nat) (h : v.toInt.natAbs ≤ a) (ha : a < 2 ^ 62) : (sgn d v).toInt.natAbs ≤ a := by
  unfold sgn
  split
  · exact (ab_neg a h ha).2
  · exact h
def hBd (a b c : Nat → Int64) : Prop := ∀ k, k < 4 → (a k).toInt.natAbs ≤ 50 ∧ (b k).toInt.natAbs ≤ 50 ∧ (c k).toInt.natAbs ≤ 200000
theorem cross_ab {a b c : Nat → Int64} (h : hBd a b c) (i j : Nat) (hi : i < 4) (hj : j < 4) (hne : ¬ crD a b i j = 0) : cBd (sgn (crD a b i j) (crX b c i j)) (sgn (crD a b i j) (crY a c i j)) (sgn (crD a b i j) (crD a b i j)) := by
  obtain ⟨a1, b1, c1⟩ := h i hi
  obtain ⟨a2, b2, c2⟩ := h j hj
  have hD := (ab_sub 2500 2500 (ab_mul 50 50 a1 b2 (by omega)).2 (ab_mul 50 50 a2 b1 (by omega)).2 (by omega)).2
  have hX := (ab_sub 10000000 10000000 (ab_mul 200000 50 c1 b2 (by omega)).2 (ab_mul 200000 50 c2 b1 (by omega)).2 (by omega)).2
  have hY := (ab_sub 10000000 10000000 (ab_mul 50 200000 a1 c2 (by omega)).2 (ab_mul 50 200000 a2 c1 (by omega)).2 (by omega)).2
  have hD : (crD a b i j).toInt.natAbs ≤ 5000 := hD
  have hne2 : (crD a b i j).toInt ≠ 0 := fun z => hne (Int64.toInt_inj.mp z)
  refine ⟨sgn_ab 20000000 hX (by omega), sgn_ab 20000000 hY (by omega), ?_⟩
  unfold sgn
  by_cases z : crD a b i j < 0
  · rw [if_pos z, (ab_neg 5000 hD (by omega)).1]
    have z : (crD a b i j).toInt < 0 := Int64.lt_iff_toInt_lt.mp z
    omega
  · rw [if_neg z]
    have z : ¬ (crD a b i j).toInt < 0 := fun q => z (Int64.lt_iff_toInt_lt.mpr q)
    omega
theorem bd_h {px py sg : Nat → Int32} {i j : Nat} {A B C : Nat → Int64} (hi : gbS px py sg i) (hj : gbS px py sg j) : hBd (bdF (bvA sg j) 2 (bdF (bvA sg i) 0 A 2) 2) (bdF (bvB sg j) 2 (bdF (bvB sg i) 0 B 2) 2) (bdF (bvC sg px py j) 2 (bdF (bvC sg px py i) 0 C 2) 2) := by
  intro k hk
  rw [bd4 _ _ _ hk, bd4 _ _ _ hk, bd4 _ _ _ hk]
  by_cases z : k < 2
  · rw [if_pos z, if_pos z, if_pos z]; exact bv_ab hi z
  · rw [if_neg z, if_neg z, if_neg z]; exact bv_ab hj (by omega)
theorem rnR_b {px py sg : Nat → Int32} {i j : Nat} {X' Y' D' : Nat → Int64} {q : Nat} (h : rnR px py sg i j X' Y' D' q) (hi : gbS px py sg i) (hj : gbS px py sg j) : ∀ k, k < q → cBd (X' k) (Y' k) (D' k) := by
  obtain ⟨A, B, C, X, Y, D, A', B', C', rfl, rfl, rfl, h⟩ := h
  exact fmS_P (P := cBd) (cross_ab (bd_h hi hj)) (Nat.le_refl 6) h
theorem gcL_ne {x d : Int64} (hd : 0 < d.toInt) (h : d.toInt < 2 ^ 62) : ¬ gcL x d = 0 := fun z => by
  have h1 : 0 < Nat.gcd x.toInt.natAbs d.toInt.natAbs := Nat.gcd_pos_of_pos_right _ (by omega)
  have h2 : Nat.gcd x.toInt.natAbs d.toInt.natAbs ≤ d.toInt.natAbs := Nat.gcd_le_right _ (by omega)
  have h3 := congrArg Int64.toInt z
  unfold gcL at h3
  rw [ofNat_toInt64 (by omega)] at h3
  have e0 : (0 : Int64).toInt = 0 := rfl
  omega
def cnM (X Y D : Nat → Int64) (i : Nat) (u : Int32) : Int64 := if u = 0 then X i / gcL (X i) (D i) else if u = 1 then D i / gcL (X i) (D i) else if u = 2 then Y i / gcL (Y i) (D i) else D i / gcL (Y i) (D i)
theorem u4 {u : Int32} (h1 : 0 ≤ u) (h2 : u ≤ 3) : u = 0 ∨ u = 1 ∨ u = 2 ∨ u = 3 := by
  have h1 := Int32.le_iff_toInt_le.mp h1
  have h2 := Int32.le_iff_toInt_le.mp h2
  have e0 : (0 : Int32).toInt = 0 := rfl
  have e3 : (3 : Int32).toInt = 3 := rfl
  rcases (by omega : u.toInt = 0 ∨ u.toInt = 1 ∨ u.toInt = 2 ∨ u.toInt = 3) with z | z | z | z
  · exact Or.inl (Int32.toInt_inj.mp z)
  · exact Or.inr (Or.inl (Int32.toInt_inj.mp z))
  · exact Or.inr (Or.inr (Or.inl (Int32.toInt_inj.mp z)))
  · exact Or.inr (Or.inr (Or.inr (Int32.toInt_inj.mp z)))
def ce_X7_corner : rz_K := (5, kMq, 1, false, fun av w => ∃ (px py sg : Nat → Int32) (A B C X Y D : Nat → Int64) (th po re nw pl tr bo pn ca sp co x y v u : Int32) (n : Nat), av = [.ref 50, .int x, .int y, .int v, .int u] ∧ w = wMq (oMo th po re nw (nI n) pl tr bo pn ca sp co) px py sg A B C X Y D ∧ n ≤ 100 ∧ (∀ i, i < n → vp_in (sg (6 * i + 0)) 6) ∧ ∀ i, i < n → gbS px py sg i, fun av w o w' => ∀ n, rF w 50 10 = nI n → n ≤ 100 → ∃ (A' B' C' X' Y' D' : Nat → Int64) (k r : Int32), mmR (rI w 51) (rI w 52) (rI w 57) n (rJ w 67) (rJ w 68) (rJ w 69) (rJ w 70) (rJ w 71) (rJ w 72) (rF w 50 33) (rA av 1) (rA av 2) r A' B' C' X' Y' D' k ∧ if r = 1 ∧ (0 ≤ rA av 3 ∧ rA av 3 < k) ∧ (0 ≤ rA av 4 ∧ rA av 4 ≤ 3) then rS o = cnM X' Y' D' (rA av 3).toNatClampNeg (rA av 4) ∧ w' = sMq (mset w 0 0) A' B' C' X' Y' D' k else rS o = 0 ∧ w' = sMq (mset w 0 1) A' B' C' X' Y' D' k)
def cl_X7_corner : List (Nat × rz_K) := [(87, ce_X7_isIn), (159, ce_X7_common)]
def cv_X7_corner : List (Nat × rz_K) := [(150, ce_X7_meets)]
set_option maxHeartbeats 8000000 in
theorem vc_X7_corner : rz_VC k_X7_corner fl_X7 cl_X7_corner cv_X7_corner s_X7_corner false 9 ce_X7_corner := by
  intro av w hlen hk hpre
  obtain ⟨px, py, sg, A, B, C, X, Y, D, th, po, re, nw, pl, tr, bo, pn, ca, sp, co, x, y, v, u, n, rfl, rfl, hn, hsg, hgb⟩ := hpre
  refine ⟨Nat.le_of_ble_eq_true rfl, [
    (41, [0, 1, 2, 3, 4], fun z lv w' => ∃ (A' B' C' X' Y' D' : Nat → Int64) (k r t : Int32), mmR px py sg n A B C X Y D co x y r A' B' C' X' Y' D' k ∧ ((t = 0 ∧ r = 1 ∧ (0 ≤ v ∧ v < k) ∧ (0 ≤ u ∧ u ≤ 3)) ∨ (t = 1 ∧ ¬ (r = 1 ∧ (0 ≤ v ∧ v < k) ∧ (0 ≤ u ∧ u ≤ 3)))) ∧ lv = [(0, .ref 50), (1, .int x), (2, .int y), (3, .int v), (4, .int u)] ∧ w' = wMq (oMo t po re nw (nI n) pl tr bo pn ca sp k) px py sg A' B' C' X' Y' D' ∧ z = 1)], 60, 2, ?_, ?_⟩
  · intro y1 hq1 z lv w' hJ
    rcases List.mem_cons.mp hq1 with rfl | hq1
    · obtain ⟨A', B', C', X', Y', D', k, r, t, h1, ht, rfl, rfl, rfl⟩ := hJ
      conv => whnf
      refine ⟨fun h => ?_, fun h => ?_⟩
      · have ht0 : t = 0 ∧ r = 1 ∧ (0 ≤ v ∧ v < k) ∧ (0 ≤ u ∧ u ≤ 3) := by
          rcases ht with g | g
          · exact g
          · rw [g.1] at h
            exact absurd h (by decide)
        obtain ⟨rfl, hr, hv, hu⟩ := ht0
        have fin : ∀ s : Int64, s = cnM X' Y' D' v.toNatClampNeg u → rz_end ce_X7_corner [.ref 50, .int x, .int y, .int v, .int u] (wMq (oMo th po re nw (nI n) pl tr bo pn ca sp co) px py sg A B C X Y D) (some (.long s)) (wMq (oMo 0 po re nw (nI n) pl tr bo pn ca sp k) px py sg A' B' C' X' Y' D') := by
          intro s hs
          refine ⟨⟨_, rfl⟩, fun z => (by cases z), ?_⟩
          intro n' e1 g1
          have e1 : n = n' := nI_inj (by omega) (by omega) e1
          subst e1
          exact ⟨A', B', C', X', Y', D', k, r, h1, if_yes ⟨hr, hv, hu⟩ ⟨hs, rfl⟩⟩
        have ok := mmR_ok h1 hr
        obtain ⟨q, hkq, hq6, hrn⟩ := mmR_rn h1 ok
        have hvq : okS v q := by
          refine ⟨hv.1, ?_⟩
          have h2 := Int32.lt_iff_toInt_lt.mp hv.2
          rw [hkq, nI_toInt (by omega)] at h2
          rw [Int32.le_iff_toInt_le, show (nI q - 1).toInt = (q : Int) - 1 from pk_sub_toInt (a := q) (b := 1) (by omega) (by omega)]
          omega
        obtain ⟨i, hi, rfl⟩ := okS_nat hvq (by omega)
        have hci : (nI i).toNatClampNeg = i := nI_clamp (by omega)
        have hv8 : vp_in (nI i) 8 := vp_in_nI (by omega) (by omega)
        obtain ⟨i1, hi1, ex⟩ := okS_nat ok.1 (by omega)
        obtain ⟨i2, hi2, ey⟩ := okS_nat ok.2.1 (by omega)
        have bd := rnR_b hrn (by rw [ex, nI_clamp (by omega)]; exact hgb i1 hi1) (by rw [ey, nI_clamp (by omega)]; exact hgb i2 hi2) i hi
        obtain ⟨bX, bY, bD0, bD⟩ := bd
        rw [hci] at fin
        have gX := gcL_ne (x := X' i) bD0 (by omega)
        have gY := gcL_ne (x := Y' i) bD0 (by omega)
        have hX : X' (nI i).toNatClampNeg = X' i := by rw [hci]
        have hY : Y' (nI i).toNatClampNeg = Y' i := by rw [hci]
        have hD : D' (nI i).toNatClampNeg = D' i := by rw [hci]
        have bc : ∀ p d : Int64, p.toInt.natAbs ≤ 20000000 → 0 < d.toInt → d.toInt ≤ 5000 → -2 ^ 62 < p.toInt ∧ p.toInt < 2 ^ 62 ∧ -2 ^ 62 < d.toInt ∧ d.toInt < 2 ^ 62 := fun p d h1 h2 h3 => ⟨by omega, by omega, by omega, by omega⟩
        rcases u4 hu.1 hu.2 with rfl | rfl | rfl | rfl
        · conv => whnf
          refine ⟨fun k1 => ?_, fun k1 => ?_⟩
          · exact absurd k1 (by decide)
          · conv => whnf
            refine ⟨hv8, ?_⟩
            conv => whnf
            intro nn enn
            have enn : nn = X' i := enn.trans hX
            subst enn
            conv => whnf
            refine ⟨hv8, ?_⟩
            conv => whnf
            refine ⟨⟨_, _, rfl, rfl, by rw [hD]; exact bc _ _ bX bD0 bD⟩, ?_⟩
            intro g hg
            have hg : g = gcL (X' i) (D' (nI i).toNatClampNeg) := hg
            rw [hD] at hg
            subst hg
            conv => whnf
            rintro _ rfl
            conv => whnf
            refine ⟨(by decide), ?_⟩
            conv => whnf
            refine ⟨fun k2 => ?_, fun k2 => ?_⟩
            · conv => whnf
              refine ⟨gX, ?_⟩
              conv => whnf
              exact fin _ rfl
            · exact absurd rfl k2
        · conv => whnf
          refine ⟨fun k1 => ?_, fun k1 => ?_⟩
          · exact absurd k1 (by decide)
          · conv => whnf
            refine ⟨hv8, ?_⟩
            conv => whnf
            intro nn enn
            have enn : nn = X' i := enn.trans hX
            subst enn
            conv => whnf
            refine ⟨hv8, ?_⟩
            conv => whnf
            refine ⟨⟨_, _, rfl, rfl, by rw [hD]; exact bc _ _ bX bD0 bD⟩, ?_⟩
            intro g hg
            have hg : g = gcL (X' i) (D' (nI i).toNatClampNeg) := hg
            rw [hD] at hg
            subst hg
            conv => whnf
            rintro _ rfl
            conv => whnf
            refine ⟨(by decide), ?_⟩
            conv => whnf
            refine ⟨fun k2 => ?_, fun k2 => ?_⟩
            · exact absurd k2 (by decide)
            · conv => whnf
              refine ⟨hv8, ?_⟩
              conv => whnf
              refine ⟨gX, ?_⟩
              conv => whnf
              exact fin _ (by rw [hD]; rfl)
        · conv => whnf
          refine ⟨fun k1 => ?_, fun k1 => ?_⟩
          · conv => whnf
            refine ⟨hv8, ?_⟩
            conv => whnf
            intro nn enn
            have enn : nn = Y' i := enn.trans hY
            subst enn
            conv => whnf
            refine ⟨hv8, ?_⟩
            conv => whnf
            refine ⟨⟨_, _, rfl, rfl, by rw [hD]; exact bc _ _ bY bD0 bD⟩, ?_⟩
            intro g hg
            have hg : g = gcL (Y' i) (D' (nI i).toNatClampNeg) := hg
            rw [hD] at hg
            subst hg
            conv => whnf
            rintro _ rfl
            conv => whnf
            refine ⟨(by decide), ?_⟩
            conv => whnf
            refine ⟨fun k2 => ?_, fun k2 => ?_⟩
            · conv => whnf
              refine ⟨gY, ?_⟩
              conv => whnf
              exact fin _ rfl
            · exact absurd rfl k2
          · exact absurd (by decide) k1
        · conv => whnf
          refine ⟨fun k1 => ?_, fun k1 => ?_⟩
          · conv => whnf
            refine ⟨hv8, ?_⟩
            conv => whnf
            intro nn enn
            have enn : nn = Y' i := enn.trans hY
            subst enn
            conv => whnf
            refine ⟨hv8, ?_⟩
            conv => whnf
            refine ⟨⟨_, _, rfl, rfl, by rw [hD]; exact bc _ _ bY bD0 bD⟩, ?_⟩
            intro g hg
            have hg : g = gcL (Y' i) (D' (nI i).toNatClampNeg) := hg
            rw [hD] at hg
            subst hg
            conv => whnf
            rintro _ rfl
            conv => whnf
            refine ⟨(by decide), ?_⟩
            conv => whnf
            refine ⟨fun k2 => ?_, fun k2 => ?_⟩
            · exact absurd k2 (by decide)
            · conv => whnf
              refine ⟨hv8, ?_⟩
              conv => whnf
              refine ⟨gY, ?_⟩
              conv => whnf
              exact fin _ (by rw [hD]; rfl)
          · exact absurd (by decide) k1
      · have ht0 : t = 1 ∧ ¬ (r = 1 ∧ (0 ≤ v ∧ v < k) ∧ (0 ≤ u ∧ u ≤ 3)) := by
          rcases ht with g | g
          · rw [g.1] at h
            exact absurd (by decide) h
          · exact g
        obtain ⟨rfl, hno⟩ := ht0
        refine ⟨⟨_, rfl⟩, fun z => (by cases z), ?_⟩
        intro n' e1 g1
        have e1 : n = n' := nI_inj (by omega) (by omega) e1
        subst e1
        exact ⟨A', B', C', X', Y', D', k, r, h1, if_no hno ⟨rfl, rfl⟩⟩
    · exact absurd hq1 List.not_mem_nil
  · conv => whnf
    refine ⟨⟨px, py, sg, A, B, C, X, Y, D, th, po, re, nw, pl, tr, bo, pn, ca, sp, co, x, y, n, rfl, rfl, hn, hsg⟩, ?_⟩
    intro r wc hwc
    obtain ⟨A', B', C', X', Y', D', k, h1, hw⟩ := hwc n rfl hn
    have hw : wc = wMq (oMo th po re nw (nI n) pl tr bo pn ca sp k) px py sg A' B' C' X' Y' D' := hw
    have h1 : mmR px py sg n A B C X Y D co x y r A' B' C' X' Y' D' k := h1
    subst hw
    have e : rz_back (wMq (oMo th po re nw (nI n) pl tr bo pn ca sp co) px py sg A B C X Y D) (wMq (oMo th po re nw (nI n) pl tr bo pn ca sp k) px py sg A' B' C' X' Y' D') = wMq (oMo th po re nw (nI n) pl tr bo pn ca sp k) px py sg A' B' C' X' Y' D' := rz_back_pre (w := wMq (oMo th po re nw (nI n) pl tr bo pn ca sp co) px py sg A B C X Y D) (q := []) rfl (show kMq.Nodup by decide +kernel)
    rw [e]
    conv => whnf
    refine ⟨fun h2 => ?_, fun h2 => ?_⟩
    · have h2 : r = 1 := h2
      conv => whnf
      refine ⟨fun h3 => ?_, fun h3 => ?_⟩
      · conv => whnf
        refine ⟨1, by omega, A', B', C', X', Y', D', k, r, 1, h1, Or.inr ⟨rfl, fun z => absurd h3 ((i32_not_lt _ _).mpr z.2.1.1)⟩, rfl, rfl, rfl⟩
      · have h3 : 0 ≤ v := (i32_not_lt _ _).mp h3
        conv => whnf
        refine ⟨fun h4 => ?_, fun h4 => ?_⟩
        · conv => whnf
          refine ⟨1, by omega, A', B', C', X', Y', D', k, r, 1, h1, Or.inr ⟨rfl, fun z => absurd h4 ((i32_not_le _ _).mpr z.2.1.2)⟩, rfl, rfl, rfl⟩
        · have h4 : v < k := (i32_not_le _ _).mp h4
          conv => whnf
          refine ⟨⟨_, _, _, rfl, rfl, trivial⟩, ?_⟩
          intro r2 hr2
          obtain rfl : r2 = bI (0 ≤ u ∧ u ≤ 3) := hr2
          conv => whnf
          refine ⟨fun h5 => ?_, fun h5 => ?_⟩
          · conv => whnf
            refine ⟨1, by omega, A', B', C', X', Y', D', k, r, 1, h1, Or.inr ⟨rfl, fun z => bI_0 h5 z.2.2⟩, rfl, rfl, rfl⟩
          · conv => whnf
            refine ⟨1, by omega, A', B', C', X', Y', D', k, r, 0, h1, Or.inl ⟨rfl, h2, ⟨h3, h4⟩, bI_n h5⟩, rfl, rfl, rfl⟩
    · conv => whnf
      refine ⟨1, by omega, A', B', C', X', Y', D', k, r, 1, h1, Or.inr ⟨rfl, fun z => h2 z.1⟩, rfl, rfl, rfl⟩
theorem rv_X7_corner : rz_Rv yX7_corner.cls ce_X7_corner := fun av w h => by
  obtain ⟨_, _, _, _, _, _, _, _, _, _, _, _, _, _, _, _, _, _, _, _, _, _, _, _, _, rfl, rfl, _⟩ := h
  exact ⟨_, _, _, _, _, _, rfl, rfl, rfl⟩
theorem cn_X7_corner (l : Launch) : rz_Con l yX7_corner cX7_corner 9 (some .long) 4 0 0 ce_X7_corner := rz_con (by decide +kernel) fo_X7 (by
  intro q hq
  rcases List.mem_cons.mp hq with rfl | hq
  · exact rz_callS (cn_X7_isIn l) (by decide +kernel) ⟨Nat.le_of_ble_eq_true rfl, Nat.le_of_ble_eq_true rfl⟩ m_X7_isIn t_X7_isIn n_X7_87
  rcases List.mem_cons.mp hq with rfl | hq
  · exact rz_callS (cn_X7_common l) (by decide +kernel) ⟨Nat.le_of_ble_eq_true rfl, Nat.le_of_ble_eq_true rfl⟩ m_X7_common t_X7_common n_X7_159
  exact absurd hq List.not_mem_nil) (by
  intro q hq
  rcases List.mem_cons.mp hq with rfl | hq
  · exact rz_callV (cn_X7_meets l) (by decide +kernel) ⟨Nat.le_of_ble_eq_true rfl, Nat.le_of_ble_eq_true rfl⟩ m_X7_meets rfl i_X7_meets v_X7_meets rv_X7_meets n_X7_150
  exact absurd hq List.not_mem_nil) r_X7_corner vc_X7_corner
end
