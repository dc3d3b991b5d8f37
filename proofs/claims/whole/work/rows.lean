section
-- ===== PART A: goes FIRST, ahead of the names: the tables' words, and 'selects' of the private methods out of them =====
/-- a private method of a class that the tables say can be made, by its rows of tables_1 -/
def lw_okq (q : MethodName × Nat) : Prop := (q.1.cls ≠ "java/lang/invoke/MethodHandle" ∧ q.1.cls ≠ "java/lang/invoke/VarHandle") ∧ Cond.instantiable q.1.cls q.2 ∈ tables_1 ∧ Cond.privateMethod q.1 ∈ tables_1 ∧ Cond.instanceMethod q.1 ∈ tables_1
theorem lw_p0 : lw_okq (⟨"CoastWatch$Lookouts", "addPost", "(III)I"⟩, 9) := ⟨⟨by decide +kernel, by decide +kernel⟩, List.mem_of_getElem? (i := 26) (by decide +kernel), List.mem_of_getElem? (i := 278) (by decide +kernel), List.mem_of_getElem? (i := 279) (by decide +kernel)⟩
theorem lw_p1 : lw_okq (⟨"CoastWatch$Lookouts", "addReach", "(II)I"⟩, 9) := ⟨⟨by decide +kernel, by decide +kernel⟩, List.mem_of_getElem? (i := 26) (by decide +kernel), List.mem_of_getElem? (i := 286) (by decide +kernel), List.mem_of_getElem? (i := 287) (by decide +kernel)⟩
theorem lw_p2 : lw_okq (⟨"CoastWatch$Lookouts", "hasPost", "(I)Z"⟩, 9) := ⟨⟨by decide +kernel, by decide +kernel⟩, List.mem_of_getElem? (i := 26) (by decide +kernel), List.mem_of_getElem? (i := 301) (by decide +kernel), List.mem_of_getElem? (i := 302) (by decide +kernel)⟩
theorem lw_p3 : lw_okq (⟨"CoastWatch$Lookouts", "isSeen", "(IIII)Z"⟩, 9) := ⟨⟨by decide +kernel, by decide +kernel⟩, List.mem_of_getElem? (i := 26) (by decide +kernel), List.mem_of_getElem? (i := 306) (by decide +kernel), List.mem_of_getElem? (i := 307) (by decide +kernel)⟩
theorem lw_p4 : lw_okq (⟨"CoastWatch$Lookouts", "fewestPosts", "(I)I"⟩, 9) := ⟨⟨by decide +kernel, by decide +kernel⟩, List.mem_of_getElem? (i := 26) (by decide +kernel), List.mem_of_getElem? (i := 314) (by decide +kernel), List.mem_of_getElem? (i := 315) (by decide +kernel)⟩
theorem lw_p5 : lw_okq (⟨"CoastWatch$Lookouts", "reachesSeen", "(I)I"⟩, 9) := ⟨⟨by decide +kernel, by decide +kernel⟩, List.mem_of_getElem? (i := 26) (by decide +kernel), List.mem_of_getElem? (i := 318) (by decide +kernel), List.mem_of_getElem? (i := 319) (by decide +kernel)⟩
theorem lw_p6 : lw_okq (⟨"CoastWatch$Lookouts", "reachesSeenBy", "(II)I"⟩, 9) := ⟨⟨by decide +kernel, by decide +kernel⟩, List.mem_of_getElem? (i := 26) (by decide +kernel), List.mem_of_getElem? (i := 322) (by decide +kernel), List.mem_of_getElem? (i := 323) (by decide +kernel)⟩
theorem lw_p7 : lw_okq (⟨"CoastWatch$Lookouts", "seenBySet", "(I)I"⟩, 9) := ⟨⟨by decide +kernel, by decide +kernel⟩, List.mem_of_getElem? (i := 26) (by decide +kernel), List.mem_of_getElem? (i := 333) (by decide +kernel), List.mem_of_getElem? (i := 334) (by decide +kernel)⟩
theorem lw_p8 : lw_okq (⟨"CoastWatch$Lookouts", "reachesUnseen", "(I)I"⟩, 9) := ⟨⟨by decide +kernel, by decide +kernel⟩, List.mem_of_getElem? (i := 26) (by decide +kernel), List.mem_of_getElem? (i := 341) (by decide +kernel), List.mem_of_getElem? (i := 342) (by decide +kernel)⟩
theorem lw_p9 : lw_okq (⟨"CoastWatch$Sightings", "add", "(III)I"⟩, 8) := ⟨⟨by decide +kernel, by decide +kernel⟩, List.mem_of_getElem? (i := 69) (by decide +kernel), List.mem_of_getElem? (i := 352) (by decide +kernel), List.mem_of_getElem? (i := 353) (by decide +kernel)⟩
theorem lw_p10 : lw_okq (⟨"CoastWatch$Sightings", "setEdges", "(IIIII)V"⟩, 8) := ⟨⟨by decide +kernel, by decide +kernel⟩, List.mem_of_getElem? (i := 69) (by decide +kernel), List.mem_of_getElem? (i := 356) (by decide +kernel), List.mem_of_getElem? (i := 357) (by decide +kernel)⟩
theorem lw_p11 : lw_okq (⟨"CoastWatch", "meet", "(II)I"⟩, 7) := ⟨⟨by decide +kernel, by decide +kernel⟩, List.mem_of_getElem? (i := 18) (by decide +kernel), List.mem_of_getElem? (i := 364) (by decide +kernel), List.mem_of_getElem? (i := 365) (by decide +kernel)⟩
theorem lw_p12 : lw_okq (⟨"CoastWatch$Sightings", "has", "(I)Z"⟩, 8) := ⟨⟨by decide +kernel, by decide +kernel⟩, List.mem_of_getElem? (i := 69) (by decide +kernel), List.mem_of_getElem? (i := 368) (by decide +kernel), List.mem_of_getElem? (i := 369) (by decide +kernel)⟩
theorem lw_p13 : lw_okq (⟨"CoastWatch$Sightings", "canMeet", "(II)Z"⟩, 8) := ⟨⟨by decide +kernel, by decide +kernel⟩, List.mem_of_getElem? (i := 69) (by decide +kernel), List.mem_of_getElem? (i := 373) (by decide +kernel), List.mem_of_getElem? (i := 374) (by decide +kernel)⟩
theorem lw_p14 : lw_okq (⟨"CoastWatch$Sightings", "putHalfPlanes", "(IILCoastWatch$Shape;)V"⟩, 8) := ⟨⟨by decide +kernel, by decide +kernel⟩, List.mem_of_getElem? (i := 69) (by decide +kernel), List.mem_of_getElem? (i := 377) (by decide +kernel), List.mem_of_getElem? (i := 378) (by decide +kernel)⟩
theorem lw_p15 : lw_okq (⟨"CoastWatch$Shape", "putLeftSide", "(IIIII)V"⟩, 10) := ⟨⟨by decide +kernel, by decide +kernel⟩, List.mem_of_getElem? (i := 102) (by decide +kernel), List.mem_of_getElem? (i := 381) (by decide +kernel), List.mem_of_getElem? (i := 382) (by decide +kernel)⟩
def lw_privs_1 : List (MethodName × Nat) := [(⟨"CoastWatch$Lookouts", "addPost", "(III)I"⟩, 9), (⟨"CoastWatch$Lookouts", "addReach", "(II)I"⟩, 9), (⟨"CoastWatch$Lookouts", "hasPost", "(I)Z"⟩, 9), (⟨"CoastWatch$Lookouts", "isSeen", "(IIII)Z"⟩, 9), (⟨"CoastWatch$Lookouts", "fewestPosts", "(I)I"⟩, 9), (⟨"CoastWatch$Lookouts", "reachesSeen", "(I)I"⟩, 9), (⟨"CoastWatch$Lookouts", "reachesSeenBy", "(II)I"⟩, 9), (⟨"CoastWatch$Lookouts", "seenBySet", "(I)I"⟩, 9), (⟨"CoastWatch$Lookouts", "reachesUnseen", "(I)I"⟩, 9), (⟨"CoastWatch$Sightings", "add", "(III)I"⟩, 8), (⟨"CoastWatch$Sightings", "setEdges", "(IIIII)V"⟩, 8), (⟨"CoastWatch", "meet", "(II)I"⟩, 7), (⟨"CoastWatch$Sightings", "has", "(I)Z"⟩, 8), (⟨"CoastWatch$Sightings", "canMeet", "(II)Z"⟩, 8), (⟨"CoastWatch$Sightings", "putHalfPlanes", "(IILCoastWatch$Shape;)V"⟩, 8), (⟨"CoastWatch$Shape", "putLeftSide", "(IIIII)V"⟩, 10)]
theorem lw_r1 : ∀ q ∈ lw_privs_1, lw_okq q := List.forall_mem_cons.mpr ⟨lw_p0, List.forall_mem_cons.mpr ⟨lw_p1, List.forall_mem_cons.mpr ⟨lw_p2, List.forall_mem_cons.mpr ⟨lw_p3, List.forall_mem_cons.mpr ⟨lw_p4, List.forall_mem_cons.mpr ⟨lw_p5, List.forall_mem_cons.mpr ⟨lw_p6, List.forall_mem_cons.mpr ⟨lw_p7, List.forall_mem_cons.mpr ⟨lw_p8, List.forall_mem_cons.mpr ⟨lw_p9, List.forall_mem_cons.mpr ⟨lw_p10, List.forall_mem_cons.mpr ⟨lw_p11, List.forall_mem_cons.mpr ⟨lw_p12, List.forall_mem_cons.mpr ⟨lw_p13, List.forall_mem_cons.mpr ⟨lw_p14, List.forall_mem_cons.mpr ⟨lw_p15, fun _ h => absurd h List.not_mem_nil⟩⟩⟩⟩⟩⟩⟩⟩⟩⟩⟩⟩⟩⟩⟩⟩
theorem lw_p16 : lw_okq (⟨"CoastWatch$Shape", "putEdge", "(III)V"⟩, 10) := ⟨⟨by decide +kernel, by decide +kernel⟩, List.mem_of_getElem? (i := 102) (by decide +kernel), List.mem_of_getElem? (i := 385) (by decide +kernel), List.mem_of_getElem? (i := 386) (by decide +kernel)⟩
theorem lw_p17 : lw_okq (⟨"CoastWatch$Shape", "findCorners", "()V"⟩, 10) := ⟨⟨by decide +kernel, by decide +kernel⟩, List.mem_of_getElem? (i := 102) (by decide +kernel), List.mem_of_getElem? (i := 389) (by decide +kernel), List.mem_of_getElem? (i := 390) (by decide +kernel)⟩
theorem lw_p18 : lw_okq (⟨"CoastWatch$Shape", "tryCrossing", "(II)V"⟩, 10) := ⟨⟨by decide +kernel, by decide +kernel⟩, List.mem_of_getElem? (i := 102) (by decide +kernel), List.mem_of_getElem? (i := 393) (by decide +kernel), List.mem_of_getElem? (i := 394) (by decide +kernel)⟩
theorem lw_p19 : lw_okq (⟨"CoastWatch$Shape", "isInside", "(JJJ)Z"⟩, 10) := ⟨⟨by decide +kernel, by decide +kernel⟩, List.mem_of_getElem? (i := 102) (by decide +kernel), List.mem_of_getElem? (i := 397) (by decide +kernel), List.mem_of_getElem? (i := 398) (by decide +kernel)⟩
theorem lw_p20 : lw_okq (⟨"CoastWatch$Shape", "insert", "(JJJ)V"⟩, 10) := ⟨⟨by decide +kernel, by decide +kernel⟩, List.mem_of_getElem? (i := 102) (by decide +kernel), List.mem_of_getElem? (i := 401) (by decide +kernel), List.mem_of_getElem? (i := 402) (by decide +kernel)⟩
theorem lw_p21 : lw_okq (⟨"CoastWatch$Shape", "order", "(IJJJ)I"⟩, 10) := ⟨⟨by decide +kernel, by decide +kernel⟩, List.mem_of_getElem? (i := 102) (by decide +kernel), List.mem_of_getElem? (i := 405) (by decide +kernel), List.mem_of_getElem? (i := 406) (by decide +kernel)⟩
theorem lw_p22 : lw_okq (⟨"CoastWatch$Shape", "kind", "()I"⟩, 10) := ⟨⟨by decide +kernel, by decide +kernel⟩, List.mem_of_getElem? (i := 102) (by decide +kernel), List.mem_of_getElem? (i := 421) (by decide +kernel), List.mem_of_getElem? (i := 422) (by decide +kernel)⟩
theorem lw_p23 : lw_okq (⟨"CoastWatch$Shape", "isEndless", "()Z"⟩, 10) := ⟨⟨by decide +kernel, by decide +kernel⟩, List.mem_of_getElem? (i := 102) (by decide +kernel), List.mem_of_getElem? (i := 425) (by decide +kernel), List.mem_of_getElem? (i := 426) (by decide +kernel)⟩
theorem lw_p24 : lw_okq (⟨"CoastWatch$Shape", "runsInside", "(JJ)Z"⟩, 10) := ⟨⟨by decide +kernel, by decide +kernel⟩, List.mem_of_getElem? (i := 102) (by decide +kernel), List.mem_of_getElem? (i := 429) (by decide +kernel), List.mem_of_getElem? (i := 430) (by decide +kernel)⟩
theorem lw_p25 : lw_okq (⟨"CoastWatch$Plots", "takes", "(II)Z"⟩, 12) := ⟨⟨by decide +kernel, by decide +kernel⟩, List.mem_of_getElem? (i := 141) (by decide +kernel), List.mem_of_getElem? (i := 441) (by decide +kernel), List.mem_of_getElem? (i := 442) (by decide +kernel)⟩
theorem lw_p26 : lw_okq (⟨"CoastWatch$Plots", "add", "(IIILCoastWatch$Shape;)I"⟩, 12) := ⟨⟨by decide +kernel, by decide +kernel⟩, List.mem_of_getElem? (i := 141) (by decide +kernel), List.mem_of_getElem? (i := 445) (by decide +kernel), List.mem_of_getElem? (i := 446) (by decide +kernel)⟩
theorem lw_p27 : lw_okq (⟨"CoastWatch$Shape", "boxSide", "(I)I"⟩, 10) := ⟨⟨by decide +kernel, by decide +kernel⟩, List.mem_of_getElem? (i := 102) (by decide +kernel), List.mem_of_getElem? (i := 449) (by decide +kernel), List.mem_of_getElem? (i := 450) (by decide +kernel)⟩
theorem lw_p28 : lw_okq (⟨"CoastWatch$Shape", "least", "([J[J)I"⟩, 10) := ⟨⟨by decide +kernel, by decide +kernel⟩, List.mem_of_getElem? (i := 102) (by decide +kernel), List.mem_of_getElem? (i := 453) (by decide +kernel), List.mem_of_getElem? (i := 454) (by decide +kernel)⟩
theorem lw_p29 : lw_okq (⟨"CoastWatch$Shape", "greatest", "([J[J)I"⟩, 10) := ⟨⟨by decide +kernel, by decide +kernel⟩, List.mem_of_getElem? (i := 102) (by decide +kernel), List.mem_of_getElem? (i := 467) (by decide +kernel), List.mem_of_getElem? (i := 468) (by decide +kernel)⟩
theorem lw_p30 : lw_okq (⟨"CoastWatch$Plots", "nearestTrack", "(I)I"⟩, 12) := ⟨⟨by decide +kernel, by decide +kernel⟩, List.mem_of_getElem? (i := 141) (by decide +kernel), List.mem_of_getElem? (i := 475) (by decide +kernel), List.mem_of_getElem? (i := 476) (by decide +kernel)⟩
theorem lw_p31 : lw_okq (⟨"CoastWatch$Plots", "squaredDistance", "(II)J"⟩, 12) := ⟨⟨by decide +kernel, by decide +kernel⟩, List.mem_of_getElem? (i := 141) (by decide +kernel), List.mem_of_getElem? (i := 479) (by decide +kernel), List.mem_of_getElem? (i := 480) (by decide +kernel)⟩
def lw_privs_2 : List (MethodName × Nat) := [(⟨"CoastWatch$Shape", "putEdge", "(III)V"⟩, 10), (⟨"CoastWatch$Shape", "findCorners", "()V"⟩, 10), (⟨"CoastWatch$Shape", "tryCrossing", "(II)V"⟩, 10), (⟨"CoastWatch$Shape", "isInside", "(JJJ)Z"⟩, 10), (⟨"CoastWatch$Shape", "insert", "(JJJ)V"⟩, 10), (⟨"CoastWatch$Shape", "order", "(IJJJ)I"⟩, 10), (⟨"CoastWatch$Shape", "kind", "()I"⟩, 10), (⟨"CoastWatch$Shape", "isEndless", "()Z"⟩, 10), (⟨"CoastWatch$Shape", "runsInside", "(JJ)Z"⟩, 10), (⟨"CoastWatch$Plots", "takes", "(II)Z"⟩, 12), (⟨"CoastWatch$Plots", "add", "(IIILCoastWatch$Shape;)I"⟩, 12), (⟨"CoastWatch$Shape", "boxSide", "(I)I"⟩, 10), (⟨"CoastWatch$Shape", "least", "([J[J)I"⟩, 10), (⟨"CoastWatch$Shape", "greatest", "([J[J)I"⟩, 10), (⟨"CoastWatch$Plots", "nearestTrack", "(I)I"⟩, 12), (⟨"CoastWatch$Plots", "squaredDistance", "(II)J"⟩, 12)]
theorem lw_r2 : ∀ q ∈ lw_privs_2, lw_okq q := List.forall_mem_cons.mpr ⟨lw_p16, List.forall_mem_cons.mpr ⟨lw_p17, List.forall_mem_cons.mpr ⟨lw_p18, List.forall_mem_cons.mpr ⟨lw_p19, List.forall_mem_cons.mpr ⟨lw_p20, List.forall_mem_cons.mpr ⟨lw_p21, List.forall_mem_cons.mpr ⟨lw_p22, List.forall_mem_cons.mpr ⟨lw_p23, List.forall_mem_cons.mpr ⟨lw_p24, List.forall_mem_cons.mpr ⟨lw_p25, List.forall_mem_cons.mpr ⟨lw_p26, List.forall_mem_cons.mpr ⟨lw_p27, List.forall_mem_cons.mpr ⟨lw_p28, List.forall_mem_cons.mpr ⟨lw_p29, List.forall_mem_cons.mpr ⟨lw_p30, List.forall_mem_cons.mpr ⟨lw_p31, fun _ h => absurd h List.not_mem_nil⟩⟩⟩⟩⟩⟩⟩⟩⟩⟩⟩⟩⟩⟩⟩⟩
theorem lw_p32 : lw_okq (⟨"CoastWatch$Plots", "partOf", "(II)I"⟩, 12) := ⟨⟨by decide +kernel, by decide +kernel⟩, List.mem_of_getElem? (i := 141) (by decide +kernel), List.mem_of_getElem? (i := 494) (by decide +kernel), List.mem_of_getElem? (i := 495) (by decide +kernel)⟩
theorem lw_p33 : lw_okq (⟨"CoastWatch$Boats", "takesPlan", "(I)Z"⟩, 8) := ⟨⟨by decide +kernel, by decide +kernel⟩, List.mem_of_getElem? (i := 187) (by decide +kernel), List.mem_of_getElem? (i := 506) (by decide +kernel), List.mem_of_getElem? (i := 507) (by decide +kernel)⟩
theorem lw_p34 : lw_okq (⟨"CoastWatch$Boats", "hasBoat", "(I)Z"⟩, 8) := ⟨⟨by decide +kernel, by decide +kernel⟩, List.mem_of_getElem? (i := 187) (by decide +kernel), List.mem_of_getElem? (i := 510) (by decide +kernel), List.mem_of_getElem? (i := 511) (by decide +kernel)⟩
theorem lw_p35 : lw_okq (⟨"CoastWatch$Boats", "isIn", "(I)Z"⟩, 8) := ⟨⟨by decide +kernel, by decide +kernel⟩, List.mem_of_getElem? (i := 187) (by decide +kernel), List.mem_of_getElem? (i := 515) (by decide +kernel), List.mem_of_getElem? (i := 516) (by decide +kernel)⟩
theorem lw_p36 : lw_okq (⟨"CoastWatch$Boats", "addPlan", "(IIII)V"⟩, 8) := ⟨⟨by decide +kernel, by decide +kernel⟩, List.mem_of_getElem? (i := 187) (by decide +kernel), List.mem_of_getElem? (i := 519) (by decide +kernel), List.mem_of_getElem? (i := 520) (by decide +kernel)⟩
theorem lw_p37 : lw_okq (⟨"CoastWatch$Boats", "stateOf", "(III)I"⟩, 8) := ⟨⟨by decide +kernel, by decide +kernel⟩, List.mem_of_getElem? (i := 187) (by decide +kernel), List.mem_of_getElem? (i := 533) (by decide +kernel), List.mem_of_getElem? (i := 534) (by decide +kernel)⟩
theorem lw_p38 : lw_okq (⟨"CoastWatch$Boats", "planKnown", "(II)I"⟩, 8) := ⟨⟨by decide +kernel, by decide +kernel⟩, List.mem_of_getElem? (i := 187) (by decide +kernel), List.mem_of_getElem? (i := 537) (by decide +kernel), List.mem_of_getElem? (i := 538) (by decide +kernel)⟩
theorem lw_p39 : lw_okq (⟨"CoastWatch$CallLog", "writeMinutes", "(IILCoastWatch$Boats;)V"⟩, 5) := ⟨⟨by decide +kernel, by decide +kernel⟩, List.mem_of_getElem? (i := 221) (by decide +kernel), List.mem_of_getElem? (i := 549) (by decide +kernel), List.mem_of_getElem? (i := 550) (by decide +kernel)⟩
theorem lw_p40 : lw_okq (⟨"CoastWatch$CallLog", "nextCall", "(ILCoastWatch$Boats;)I"⟩, 5) := ⟨⟨by decide +kernel, by decide +kernel⟩, List.mem_of_getElem? (i := 221) (by decide +kernel), List.mem_of_getElem? (i := 553) (by decide +kernel), List.mem_of_getElem? (i := 554) (by decide +kernel)⟩
theorem lw_p41 : lw_okq (⟨"CoastWatch$CallLog", "callMinute", "(IILCoastWatch$Boats;)I"⟩, 5) := ⟨⟨by decide +kernel, by decide +kernel⟩, List.mem_of_getElem? (i := 221) (by decide +kernel), List.mem_of_getElem? (i := 557) (by decide +kernel), List.mem_of_getElem? (i := 558) (by decide +kernel)⟩
theorem lw_p42 : lw_okq (⟨"CoastWatch$Boats", "firstOverdue", "(I)I"⟩, 8) := ⟨⟨by decide +kernel, by decide +kernel⟩, List.mem_of_getElem? (i := 187) (by decide +kernel), List.mem_of_getElem? (i := 562) (by decide +kernel), List.mem_of_getElem? (i := 563) (by decide +kernel)⟩
theorem lw_p43 : lw_okq (⟨"CoastWatch$CallLog", "writeMinute", "(ILCoastWatch$Boats;)V"⟩, 5) := ⟨⟨by decide +kernel, by decide +kernel⟩, List.mem_of_getElem? (i := 221) (by decide +kernel), List.mem_of_getElem? (i := 566) (by decide +kernel), List.mem_of_getElem? (i := 567) (by decide +kernel)⟩
theorem lw_p44 : lw_okq (⟨"CoastWatch$CallLog", "writeLine", "(III)V"⟩, 5) := ⟨⟨by decide +kernel, by decide +kernel⟩, List.mem_of_getElem? (i := 221) (by decide +kernel), List.mem_of_getElem? (i := 570) (by decide +kernel), List.mem_of_getElem? (i := 571) (by decide +kernel)⟩
theorem lw_p45 : lw_okq (⟨"CoastWatch$CallLog", "partOf", "(II)I"⟩, 5) := ⟨⟨by decide +kernel, by decide +kernel⟩, List.mem_of_getElem? (i := 221) (by decide +kernel), List.mem_of_getElem? (i := 578) (by decide +kernel), List.mem_of_getElem? (i := 579) (by decide +kernel)⟩
theorem lw_p46 : lw_okq (⟨"CoastWatch$Boats", "overdueAt", "(I)I"⟩, 8) := ⟨⟨by decide +kernel, by decide +kernel⟩, List.mem_of_getElem? (i := 187) (by decide +kernel), List.mem_of_getElem? (i := 590) (by decide +kernel), List.mem_of_getElem? (i := 591) (by decide +kernel)⟩
theorem lw_p47 : lw_okq (⟨"java/lang/Throwable", "fillInStackTrace", "(I)Ljava/lang/Throwable;"⟩, 6) := ⟨⟨by decide +kernel, by decide +kernel⟩, List.mem_of_getElem? (i := 639) (by decide +kernel), List.mem_of_getElem? (i := 637) (by decide +kernel), List.mem_of_getElem? (i := 638) (by decide +kernel)⟩
def lw_privs_3 : List (MethodName × Nat) := [(⟨"CoastWatch$Plots", "partOf", "(II)I"⟩, 12), (⟨"CoastWatch$Boats", "takesPlan", "(I)Z"⟩, 8), (⟨"CoastWatch$Boats", "hasBoat", "(I)Z"⟩, 8), (⟨"CoastWatch$Boats", "isIn", "(I)Z"⟩, 8), (⟨"CoastWatch$Boats", "addPlan", "(IIII)V"⟩, 8), (⟨"CoastWatch$Boats", "stateOf", "(III)I"⟩, 8), (⟨"CoastWatch$Boats", "planKnown", "(II)I"⟩, 8), (⟨"CoastWatch$CallLog", "writeMinutes", "(IILCoastWatch$Boats;)V"⟩, 5), (⟨"CoastWatch$CallLog", "nextCall", "(ILCoastWatch$Boats;)I"⟩, 5), (⟨"CoastWatch$CallLog", "callMinute", "(IILCoastWatch$Boats;)I"⟩, 5), (⟨"CoastWatch$Boats", "firstOverdue", "(I)I"⟩, 8), (⟨"CoastWatch$CallLog", "writeMinute", "(ILCoastWatch$Boats;)V"⟩, 5), (⟨"CoastWatch$CallLog", "writeLine", "(III)V"⟩, 5), (⟨"CoastWatch$CallLog", "partOf", "(II)I"⟩, 5), (⟨"CoastWatch$Boats", "overdueAt", "(I)I"⟩, 8), (⟨"java/lang/Throwable", "fillInStackTrace", "(I)Ljava/lang/Throwable;"⟩, 6)]
theorem lw_r3 : ∀ q ∈ lw_privs_3, lw_okq q := List.forall_mem_cons.mpr ⟨lw_p32, List.forall_mem_cons.mpr ⟨lw_p33, List.forall_mem_cons.mpr ⟨lw_p34, List.forall_mem_cons.mpr ⟨lw_p35, List.forall_mem_cons.mpr ⟨lw_p36, List.forall_mem_cons.mpr ⟨lw_p37, List.forall_mem_cons.mpr ⟨lw_p38, List.forall_mem_cons.mpr ⟨lw_p39, List.forall_mem_cons.mpr ⟨lw_p40, List.forall_mem_cons.mpr ⟨lw_p41, List.forall_mem_cons.mpr ⟨lw_p42, List.forall_mem_cons.mpr ⟨lw_p43, List.forall_mem_cons.mpr ⟨lw_p44, List.forall_mem_cons.mpr ⟨lw_p45, List.forall_mem_cons.mpr ⟨lw_p46, List.forall_mem_cons.mpr ⟨lw_p47, fun _ h => absurd h List.not_mem_nil⟩⟩⟩⟩⟩⟩⟩⟩⟩⟩⟩⟩⟩⟩⟩⟩
theorem lw_p48 : lw_okq (⟨"CoastWatch$Shape", "cornerPart", "(II)J"⟩, 10) := ⟨⟨by decide +kernel, by decide +kernel⟩, List.mem_of_getElem? (i := 102) (by decide +kernel), List.mem_of_getElem? (i := 664) (by decide +kernel), List.mem_of_getElem? (i := 665) (by decide +kernel)⟩
theorem lw_p49 : lw_okq (⟨"CoastWatchModel", "seesAt", "(IIII)Z"⟩, 35) := ⟨⟨by decide +kernel, by decide +kernel⟩, List.mem_of_getElem? (i := 676) (by decide +kernel), List.mem_of_getElem? (i := 814) (by decide +kernel), List.mem_of_getElem? (i := 815) (by decide +kernel)⟩
theorem lw_p50 : lw_okq (⟨"CoastWatchModel", "seenBy", "(II)I"⟩, 35) := ⟨⟨by decide +kernel, by decide +kernel⟩, List.mem_of_getElem? (i := 676) (by decide +kernel), List.mem_of_getElem? (i := 822) (by decide +kernel), List.mem_of_getElem? (i := 823) (by decide +kernel)⟩
theorem lw_p51 : lw_okq (⟨"CoastWatchModel", "meets", "(II)I"⟩, 35) := ⟨⟨by decide +kernel, by decide +kernel⟩, List.mem_of_getElem? (i := 676) (by decide +kernel), List.mem_of_getElem? (i := 841) (by decide +kernel), List.mem_of_getElem? (i := 842) (by decide +kernel)⟩
theorem lw_p52 : lw_okq (⟨"CoastWatchModel", "isPair", "(II)Z"⟩, 35) := ⟨⟨by decide +kernel, by decide +kernel⟩, List.mem_of_getElem? (i := 676) (by decide +kernel), List.mem_of_getElem? (i := 845) (by decide +kernel), List.mem_of_getElem? (i := 846) (by decide +kernel)⟩
theorem lw_p53 : lw_okq (⟨"CoastWatchModel", "of", "(II)I"⟩, 35) := ⟨⟨by decide +kernel, by decide +kernel⟩, List.mem_of_getElem? (i := 676) (by decide +kernel), List.mem_of_getElem? (i := 849) (by decide +kernel), List.mem_of_getElem? (i := 850) (by decide +kernel)⟩
theorem lw_p54 : lw_okq (⟨"CoastWatchModel", "bounds", "(II)V"⟩, 35) := ⟨⟨by decide +kernel, by decide +kernel⟩, List.mem_of_getElem? (i := 676) (by decide +kernel), List.mem_of_getElem? (i := 853) (by decide +kernel), List.mem_of_getElem? (i := 854) (by decide +kernel)⟩
theorem lw_p55 : lw_okq (⟨"CoastWatchModel", "cross", "(II)V"⟩, 35) := ⟨⟨by decide +kernel, by decide +kernel⟩, List.mem_of_getElem? (i := 676) (by decide +kernel), List.mem_of_getElem? (i := 858) (by decide +kernel), List.mem_of_getElem? (i := 859) (by decide +kernel)⟩
theorem lw_p56 : lw_okq (⟨"CoastWatchModel", "isWithin", "(JJJZ)Z"⟩, 35) := ⟨⟨by decide +kernel, by decide +kernel⟩, List.mem_of_getElem? (i := 676) (by decide +kernel), List.mem_of_getElem? (i := 862) (by decide +kernel), List.mem_of_getElem? (i := 863) (by decide +kernel)⟩
theorem lw_p57 : lw_okq (⟨"CoastWatchModel", "compare", "(IJJJ)I"⟩, 35) := ⟨⟨by decide +kernel, by decide +kernel⟩, List.mem_of_getElem? (i := 676) (by decide +kernel), List.mem_of_getElem? (i := 866) (by decide +kernel), List.mem_of_getElem? (i := 867) (by decide +kernel)⟩
theorem lw_p58 : lw_okq (⟨"CoastWatchModel", "boxOf", "(II)V"⟩, 35) := ⟨⟨by decide +kernel, by decide +kernel⟩, List.mem_of_getElem? (i := 676) (by decide +kernel), List.mem_of_getElem? (i := 887) (by decide +kernel), List.mem_of_getElem? (i := 888) (by decide +kernel)⟩
theorem lw_p59 : lw_okq (⟨"CoastWatchModel", "latest", "(I)I"⟩, 35) := ⟨⟨by decide +kernel, by decide +kernel⟩, List.mem_of_getElem? (i := 676) (by decide +kernel), List.mem_of_getElem? (i := 898) (by decide +kernel), List.mem_of_getElem? (i := 899) (by decide +kernel)⟩
theorem lw_p60 : lw_okq (⟨"CoastWatchModel", "stands", "(III)I"⟩, 35) := ⟨⟨by decide +kernel, by decide +kernel⟩, List.mem_of_getElem? (i := 676) (by decide +kernel), List.mem_of_getElem? (i := 926) (by decide +kernel), List.mem_of_getElem? (i := 927) (by decide +kernel)⟩
theorem lw_p61 : lw_okq (⟨"CoastWatchModel", "lastPlan", "(II)I"⟩, 35) := ⟨⟨by decide +kernel, by decide +kernel⟩, List.mem_of_getElem? (i := 676) (by decide +kernel), List.mem_of_getElem? (i := 930) (by decide +kernel), List.mem_of_getElem? (i := 931) (by decide +kernel)⟩
theorem lw_p62 : lw_okq (⟨"CoastWatchModel", "ofPlan", "(II)I"⟩, 35) := ⟨⟨by decide +kernel, by decide +kernel⟩, List.mem_of_getElem? (i := 676) (by decide +kernel), List.mem_of_getElem? (i := 934) (by decide +kernel), List.mem_of_getElem? (i := 935) (by decide +kernel)⟩
theorem lw_p63 : lw_okq (⟨"CoastWatchModel", "overdue", "(I)V"⟩, 35) := ⟨⟨by decide +kernel, by decide +kernel⟩, List.mem_of_getElem? (i := 676) (by decide +kernel), List.mem_of_getElem? (i := 946) (by decide +kernel), List.mem_of_getElem? (i := 947) (by decide +kernel)⟩
def lw_privs_4 : List (MethodName × Nat) := [(⟨"CoastWatch$Shape", "cornerPart", "(II)J"⟩, 10), (⟨"CoastWatchModel", "seesAt", "(IIII)Z"⟩, 35), (⟨"CoastWatchModel", "seenBy", "(II)I"⟩, 35), (⟨"CoastWatchModel", "meets", "(II)I"⟩, 35), (⟨"CoastWatchModel", "isPair", "(II)Z"⟩, 35), (⟨"CoastWatchModel", "of", "(II)I"⟩, 35), (⟨"CoastWatchModel", "bounds", "(II)V"⟩, 35), (⟨"CoastWatchModel", "cross", "(II)V"⟩, 35), (⟨"CoastWatchModel", "isWithin", "(JJJZ)Z"⟩, 35), (⟨"CoastWatchModel", "compare", "(IJJJ)I"⟩, 35), (⟨"CoastWatchModel", "boxOf", "(II)V"⟩, 35), (⟨"CoastWatchModel", "latest", "(I)I"⟩, 35), (⟨"CoastWatchModel", "stands", "(III)I"⟩, 35), (⟨"CoastWatchModel", "lastPlan", "(II)I"⟩, 35), (⟨"CoastWatchModel", "ofPlan", "(II)I"⟩, 35), (⟨"CoastWatchModel", "overdue", "(I)V"⟩, 35)]
theorem lw_r4 : ∀ q ∈ lw_privs_4, lw_okq q := List.forall_mem_cons.mpr ⟨lw_p48, List.forall_mem_cons.mpr ⟨lw_p49, List.forall_mem_cons.mpr ⟨lw_p50, List.forall_mem_cons.mpr ⟨lw_p51, List.forall_mem_cons.mpr ⟨lw_p52, List.forall_mem_cons.mpr ⟨lw_p53, List.forall_mem_cons.mpr ⟨lw_p54, List.forall_mem_cons.mpr ⟨lw_p55, List.forall_mem_cons.mpr ⟨lw_p56, List.forall_mem_cons.mpr ⟨lw_p57, List.forall_mem_cons.mpr ⟨lw_p58, List.forall_mem_cons.mpr ⟨lw_p59, List.forall_mem_cons.mpr ⟨lw_p60, List.forall_mem_cons.mpr ⟨lw_p61, List.forall_mem_cons.mpr ⟨lw_p62, List.forall_mem_cons.mpr ⟨lw_p63, fun _ h => absurd h List.not_mem_nil⟩⟩⟩⟩⟩⟩⟩⟩⟩⟩⟩⟩⟩⟩⟩⟩
def lw_privs : List (MethodName × Nat) := lw_privs_1 ++ (lw_privs_2 ++ (lw_privs_3 ++ (lw_privs_4)))
def lw_tbl : List Cond := k2_sels lw_privs ++ tables_1
theorem lw_privs_ok : ∀ q ∈ lw_privs, lw_okq q := by
  show ∀ q ∈ lw_privs_1 ++ (lw_privs_2 ++ (lw_privs_3 ++ (lw_privs_4))), lw_okq q
  exact List.forall_mem_append.mpr ⟨lw_r1, List.forall_mem_append.mpr ⟨lw_r2, List.forall_mem_append.mpr ⟨lw_r3, lw_r4⟩⟩⟩
end
section
/-! ===== BEGIN printed: names, fields, word lists, decode rows ===== -/
def RX0 : String := "CoastWatch$Boats"
def TX0 : u_T := fun k => match k with
  | 0 => ("CoastWatch$Boats", "planBoat", "[I", true)
  | 1 => ("CoastWatch$Boats", "planLeaving", "[I", true)
  | 2 => ("CoastWatch$Boats", "planEnd", "[I", true)
  | 3 => ("CoastWatch$Boats", "planTold", "[I", true)
  | 4 => ("CoastWatch$Boats", "lastPlan", "[I", true)
  | 5 => ("CoastWatch$Boats", "inMinute", "[I", true)
  | 6 => ("CoastWatch$Boats", "plans", "I", false)
  | _ => ("CoastWatch$Boats", "size", "I", false)
def tyX0 : Nat → FieldType := fun k => match k with
  | 0 => .array .int
  | 1 => .array .int
  | 2 => .array .int
  | 3 => .array .int
  | 4 => .array .int
  | 5 => .array .int
  | 6 => .int
  | _ => .int
abbrev wsX00 : List Cond := u_ws RX0 TX0 8
theorem nmX0 : ∀ a, a < 8 → ∀ b, b < 8 → a ≠ b → (TX0 a).2.1 ≠ (TX0 b).2.1 := by decide +kernel
theorem tyX0_ok : ∀ k, k < 8 → parseFieldDescriptor (TX0 k).2.2.1 = some (tyX0 k) := by decide +kernel
abbrev cX0_init : ByteArray := prog_2_method_1_code
def yX0_init : MethodName := ⟨RX0, "<init>", "()V"⟩
abbrev cX0_hasBoat : ByteArray := prog_2_method_2_code
def yX0_hasBoat : MethodName := ⟨RX0, "hasBoat", "(I)Z"⟩
abbrev cX0_isIn : ByteArray := prog_2_method_3_code
def yX0_isIn : MethodName := ⟨RX0, "isIn", "(I)Z"⟩
abbrev cX0_takesPlan : ByteArray := prog_2_method_4_code
def yX0_takesPlan : MethodName := ⟨RX0, "takesPlan", "(I)Z"⟩
abbrev cX0_addPlan : ByteArray := prog_2_method_5_code
def yX0_addPlan : MethodName := ⟨RX0, "addPlan", "(IIII)V"⟩
abbrev cX0_stateOf : ByteArray := prog_2_method_6_code
def yX0_stateOf : MethodName := ⟨RX0, "stateOf", "(III)I"⟩
abbrev cX0_planKnown : ByteArray := prog_2_method_7_code
def yX0_planKnown : MethodName := ⟨RX0, "planKnown", "(II)I"⟩
abbrev cX0_overdueAt : ByteArray := prog_2_method_8_code
def yX0_overdueAt : MethodName := ⟨RX0, "overdueAt", "(I)I"⟩
abbrev cX0_firstOverdue : ByteArray := prog_2_method_9_code
def yX0_firstOverdue : MethodName := ⟨RX0, "firstOverdue", "(I)I"⟩
def RX1 : String := "CoastWatch$CallLog"
def TX1 : u_T := fun k => match k with
  | 0 => ("CoastWatch$CallLog", "delay", "[I", true)
  | 1 => ("CoastWatch$CallLog", "lineBoat", "[I", true)
  | 2 => ("CoastWatch$CallLog", "lineRule", "[I", true)
  | 3 => ("CoastWatch$CallLog", "lineMinute", "[I", true)
  | _ => ("CoastWatch$CallLog", "written", "I", false)
def tyX1 : Nat → FieldType := fun k => match k with
  | 0 => .array .int
  | 1 => .array .int
  | 2 => .array .int
  | 3 => .array .int
  | _ => .int
abbrev wsX10 : List Cond := u_ws RX1 TX1 5
theorem nmX1 : ∀ a, a < 5 → ∀ b, b < 5 → a ≠ b → (TX1 a).2.1 ≠ (TX1 b).2.1 := by decide +kernel
theorem tyX1_ok : ∀ k, k < 5 → parseFieldDescriptor (TX1 k).2.2.1 = some (tyX1 k) := by decide +kernel
abbrev cX1_init : ByteArray := prog_3_method_1_code
def yX1_init : MethodName := ⟨RX1, "<init>", "()V"⟩
abbrev cX1_writeMinutes : ByteArray := prog_3_method_2_code
def yX1_writeMinutes : MethodName := ⟨RX1, "writeMinutes", "(IILCoastWatch$Boats;)V"⟩
abbrev cX1_nextCall : ByteArray := prog_3_method_3_code
def yX1_nextCall : MethodName := ⟨RX1, "nextCall", "(ILCoastWatch$Boats;)I"⟩
abbrev cX1_callMinute : ByteArray := prog_3_method_4_code
def yX1_callMinute : MethodName := ⟨RX1, "callMinute", "(IILCoastWatch$Boats;)I"⟩
abbrev cX1_writeMinute : ByteArray := prog_3_method_5_code
def yX1_writeMinute : MethodName := ⟨RX1, "writeMinute", "(ILCoastWatch$Boats;)V"⟩
abbrev cX1_writeLine : ByteArray := prog_3_method_6_code
def yX1_writeLine : MethodName := ⟨RX1, "writeLine", "(III)V"⟩
abbrev cX1_partOf : ByteArray := prog_3_method_7_code
def yX1_partOf : MethodName := ⟨RX1, "partOf", "(II)I"⟩
def RX2 : String := "CoastWatch$Lookouts"
def TX2 : u_T := fun k => match k with
  | 0 => ("CoastWatch$Lookouts", "postX", "[I", true)
  | 1 => ("CoastWatch$Lookouts", "postY", "[I", true)
  | 2 => ("CoastWatch$Lookouts", "height", "[I", true)
  | 3 => ("CoastWatch$Lookouts", "reachX", "[I", true)
  | 4 => ("CoastWatch$Lookouts", "reachY", "[I", true)
  | 5 => ("CoastWatch$Lookouts", "visibility", "[I", true)
  | 6 => ("CoastWatch$Lookouts", "seenByPost", "[I", true)
  | 7 => ("CoastWatch$Lookouts", "posts", "I", false)
  | _ => ("CoastWatch$Lookouts", "reaches", "I", false)
def tyX2 : Nat → FieldType := fun k => match k with
  | 0 => .array .int
  | 1 => .array .int
  | 2 => .array .int
  | 3 => .array .int
  | 4 => .array .int
  | 5 => .array .int
  | 6 => .array .int
  | 7 => .int
  | _ => .int
abbrev wsX20 : List Cond := u_ws RX2 TX2 9
theorem nmX2 : ∀ a, a < 9 → ∀ b, b < 9 → a ≠ b → (TX2 a).2.1 ≠ (TX2 b).2.1 := by decide +kernel
theorem tyX2_ok : ∀ k, k < 9 → parseFieldDescriptor (TX2 k).2.2.1 = some (tyX2 k) := by decide +kernel
abbrev cX2_init : ByteArray := prog_4_method_1_code
def yX2_init : MethodName := ⟨RX2, "<init>", "()V"⟩
abbrev cX2_addPost : ByteArray := prog_4_method_2_code
def yX2_addPost : MethodName := ⟨RX2, "addPost", "(III)I"⟩
abbrev cX2_addReach : ByteArray := prog_4_method_3_code
def yX2_addReach : MethodName := ⟨RX2, "addReach", "(II)I"⟩
abbrev cX2_hasPost : ByteArray := prog_4_method_4_code
def yX2_hasPost : MethodName := ⟨RX2, "hasPost", "(I)Z"⟩
abbrev cX2_isSeen : ByteArray := prog_4_method_5_code
def yX2_isSeen : MethodName := ⟨RX2, "isSeen", "(IIII)Z"⟩
abbrev cX2_reachesSeenBy : ByteArray := prog_4_method_6_code
def yX2_reachesSeenBy : MethodName := ⟨RX2, "reachesSeenBy", "(II)I"⟩
abbrev cX2_reachesSeen : ByteArray := prog_4_method_7_code
def yX2_reachesSeen : MethodName := ⟨RX2, "reachesSeen", "(I)I"⟩
abbrev cX2_reachesUnseen : ByteArray := prog_4_method_8_code
def yX2_reachesUnseen : MethodName := ⟨RX2, "reachesUnseen", "(I)I"⟩
abbrev cX2_fewestPosts : ByteArray := prog_4_method_9_code
def yX2_fewestPosts : MethodName := ⟨RX2, "fewestPosts", "(I)I"⟩
abbrev cX2_seenBySet : ByteArray := prog_4_method_10_code
def yX2_seenBySet : MethodName := ⟨RX2, "seenBySet", "(I)I"⟩
def RX3 : String := "CoastWatch$Plots"
def TX3 : u_T := fun k => match k with
  | 0 => ("CoastWatch$Plots", "first", "[I", true)
  | 1 => ("CoastWatch$Plots", "second", "[I", true)
  | 2 => ("CoastWatch$Plots", "minute", "[I", true)
  | 3 => ("CoastWatch$Plots", "trackOf", "[I", true)
  | 4 => ("CoastWatch$Plots", "left", "[I", true)
  | 5 => ("CoastWatch$Plots", "bottom", "[I", true)
  | 6 => ("CoastWatch$Plots", "right", "[I", true)
  | 7 => ("CoastWatch$Plots", "top", "[I", true)
  | 8 => ("CoastWatch$Plots", "latest", "[I", true)
  | 9 => ("CoastWatch$Plots", "size", "I", false)
  | 10 => ("CoastWatch$Plots", "tracks", "I", false)
  | _ => ("CoastWatch$Plots", "trackSpeed", "I", false)
def tyX3 : Nat → FieldType := fun k => match k with
  | 0 => .array .int
  | 1 => .array .int
  | 2 => .array .int
  | 3 => .array .int
  | 4 => .array .int
  | 5 => .array .int
  | 6 => .array .int
  | 7 => .array .int
  | 8 => .array .int
  | 9 => .int
  | 10 => .int
  | _ => .int
abbrev wsX30 : List Cond := u_ws RX3 TX3 12
theorem nmX3 : ∀ a, a < 12 → ∀ b, b < 12 → a ≠ b → (TX3 a).2.1 ≠ (TX3 b).2.1 := by decide +kernel
theorem tyX3_ok : ∀ k, k < 12 → parseFieldDescriptor (TX3 k).2.2.1 = some (tyX3 k) := by decide +kernel
abbrev cX3_init : ByteArray := prog_5_method_1_code
def yX3_init : MethodName := ⟨RX3, "<init>", "()V"⟩
abbrev cX3_takes : ByteArray := prog_5_method_2_code
def yX3_takes : MethodName := ⟨RX3, "takes", "(II)Z"⟩
abbrev cX3_add : ByteArray := prog_5_method_3_code
def yX3_add : MethodName := ⟨RX3, "add", "(IIILCoastWatch$Shape;)I"⟩
abbrev cX3_nearestTrack : ByteArray := prog_5_method_4_code
def yX3_nearestTrack : MethodName := ⟨RX3, "nearestTrack", "(I)I"⟩
abbrev cX3_squaredDistance : ByteArray := prog_5_method_5_code
def yX3_squaredDistance : MethodName := ⟨RX3, "squaredDistance", "(II)J"⟩
abbrev cX3_gap : ByteArray := prog_5_method_6_code
def yX3_gap : MethodName := ⟨RX3, "gap", "(IIII)J"⟩
abbrev cX3_partOf : ByteArray := prog_5_method_7_code
def yX3_partOf : MethodName := ⟨RX3, "partOf", "(II)I"⟩
def RX4 : String := "CoastWatch$Shape"
def TX4 : u_T := fun k => match k with
  | 0 => ("CoastWatch$Shape", "a", "[J", true)
  | 1 => ("CoastWatch$Shape", "b", "[J", true)
  | 2 => ("CoastWatch$Shape", "c", "[J", true)
  | 3 => ("CoastWatch$Shape", "edgeX", "[J", true)
  | 4 => ("CoastWatch$Shape", "edgeY", "[J", true)
  | 5 => ("CoastWatch$Shape", "topX", "[J", true)
  | 6 => ("CoastWatch$Shape", "lowX", "[J", true)
  | 7 => ("CoastWatch$Shape", "topY", "[J", true)
  | 8 => ("CoastWatch$Shape", "lowY", "[J", true)
  | _ => ("CoastWatch$Shape", "corners", "I", false)
def tyX4 : Nat → FieldType := fun k => match k with
  | 0 => .array .long
  | 1 => .array .long
  | 2 => .array .long
  | 3 => .array .long
  | 4 => .array .long
  | 5 => .array .long
  | 6 => .array .long
  | 7 => .array .long
  | 8 => .array .long
  | _ => .int
abbrev wsX40 : List Cond := u_ws RX4 TX4 10
theorem nmX4 : ∀ a, a < 10 → ∀ b, b < 10 → a ≠ b → (TX4 a).2.1 ≠ (TX4 b).2.1 := by decide +kernel
theorem tyX4_ok : ∀ k, k < 10 → parseFieldDescriptor (TX4 k).2.2.1 = some (tyX4 k) := by decide +kernel
abbrev cX4_init : ByteArray := prog_6_method_1_code
def yX4_init : MethodName := ⟨RX4, "<init>", "()V"⟩
abbrev cX4_putLeftSide : ByteArray := prog_6_method_2_code
def yX4_putLeftSide : MethodName := ⟨RX4, "putLeftSide", "(IIIII)V"⟩
abbrev cX4_putEdge : ByteArray := prog_6_method_3_code
def yX4_putEdge : MethodName := ⟨RX4, "putEdge", "(III)V"⟩
abbrev cX4_findCorners : ByteArray := prog_6_method_4_code
def yX4_findCorners : MethodName := ⟨RX4, "findCorners", "()V"⟩
abbrev cX4_tryCrossing : ByteArray := prog_6_method_5_code
def yX4_tryCrossing : MethodName := ⟨RX4, "tryCrossing", "(II)V"⟩
abbrev cX4_isInside : ByteArray := prog_6_method_6_code
def yX4_isInside : MethodName := ⟨RX4, "isInside", "(JJJ)Z"⟩
abbrev cX4_insert : ByteArray := prog_6_method_7_code
def yX4_insert : MethodName := ⟨RX4, "insert", "(JJJ)V"⟩
abbrev cX4_order : ByteArray := prog_6_method_8_code
def yX4_order : MethodName := ⟨RX4, "order", "(IJJJ)I"⟩
abbrev cX4_commonDivisor : ByteArray := prog_6_method_9_code
def yX4_commonDivisor : MethodName := ⟨RX4, "commonDivisor", "(JJ)J"⟩
abbrev cX4_over : ByteArray := prog_6_method_10_code
def yX4_over : MethodName := ⟨RX4, "over", "(JJ)J"⟩
abbrev cX4_kind : ByteArray := prog_6_method_11_code
def yX4_kind : MethodName := ⟨RX4, "kind", "()I"⟩
abbrev cX4_isEndless : ByteArray := prog_6_method_12_code
def yX4_isEndless : MethodName := ⟨RX4, "isEndless", "()Z"⟩
abbrev cX4_runsInside : ByteArray := prog_6_method_13_code
def yX4_runsInside : MethodName := ⟨RX4, "runsInside", "(JJ)Z"⟩
abbrev cX4_cornerPart : ByteArray := prog_6_method_14_code
def yX4_cornerPart : MethodName := ⟨RX4, "cornerPart", "(II)J"⟩
abbrev cX4_boxSide : ByteArray := prog_6_method_15_code
def yX4_boxSide : MethodName := ⟨RX4, "boxSide", "(I)I"⟩
abbrev cX4_least : ByteArray := prog_6_method_16_code
def yX4_least : MethodName := ⟨RX4, "least", "([J[J)I"⟩
abbrev cX4_greatest : ByteArray := prog_6_method_17_code
def yX4_greatest : MethodName := ⟨RX4, "greatest", "([J[J)I"⟩
abbrev cX4_floor : ByteArray := prog_6_method_18_code
def yX4_floor : MethodName := ⟨RX4, "floor", "(JJ)J"⟩
def RX5 : String := "CoastWatch$Sightings"
def TX5 : u_T := fun k => match k with
  | 0 => ("CoastWatch$Sightings", "fromX", "[I", true)
  | 1 => ("CoastWatch$Sightings", "fromY", "[I", true)
  | 2 => ("CoastWatch$Sightings", "minute", "[I", true)
  | 3 => ("CoastWatch$Sightings", "firstX", "[I", true)
  | 4 => ("CoastWatch$Sightings", "firstY", "[I", true)
  | 5 => ("CoastWatch$Sightings", "secondX", "[I", true)
  | 6 => ("CoastWatch$Sightings", "secondY", "[I", true)
  | _ => ("CoastWatch$Sightings", "size", "I", false)
def tyX5 : Nat → FieldType := fun k => match k with
  | 0 => .array .int
  | 1 => .array .int
  | 2 => .array .int
  | 3 => .array .int
  | 4 => .array .int
  | 5 => .array .int
  | 6 => .array .int
  | _ => .int
abbrev wsX50 : List Cond := u_ws RX5 TX5 8
theorem nmX5 : ∀ a, a < 8 → ∀ b, b < 8 → a ≠ b → (TX5 a).2.1 ≠ (TX5 b).2.1 := by decide +kernel
theorem tyX5_ok : ∀ k, k < 8 → parseFieldDescriptor (TX5 k).2.2.1 = some (tyX5 k) := by decide +kernel
abbrev cX5_init : ByteArray := prog_7_method_1_code
def yX5_init : MethodName := ⟨RX5, "<init>", "()V"⟩
abbrev cX5_add : ByteArray := prog_7_method_2_code
def yX5_add : MethodName := ⟨RX5, "add", "(III)I"⟩
abbrev cX5_setEdges : ByteArray := prog_7_method_3_code
def yX5_setEdges : MethodName := ⟨RX5, "setEdges", "(IIIII)V"⟩
abbrev cX5_has : ByteArray := prog_7_method_4_code
def yX5_has : MethodName := ⟨RX5, "has", "(I)Z"⟩
abbrev cX5_canMeet : ByteArray := prog_7_method_5_code
def yX5_canMeet : MethodName := ⟨RX5, "canMeet", "(II)Z"⟩
abbrev cX5_putHalfPlanes : ByteArray := prog_7_method_6_code
def yX5_putHalfPlanes : MethodName := ⟨RX5, "putHalfPlanes", "(IILCoastWatch$Shape;)V"⟩
def RX6 : String := "CoastWatch"
def TX6 : u_T := fun k => match k with
  | 0 => ("CoastWatch", "lookouts", "LCoastWatch$Lookouts;", true)
  | 1 => ("CoastWatch", "sightings", "LCoastWatch$Sightings;", true)
  | 2 => ("CoastWatch", "shape", "LCoastWatch$Shape;", true)
  | 3 => ("CoastWatch", "plots", "LCoastWatch$Plots;", true)
  | 4 => ("CoastWatch", "boats", "LCoastWatch$Boats;", true)
  | 5 => ("CoastWatch", "calls", "LCoastWatch$CallLog;", true)
  | _ => ("CoastWatch", "now", "I", false)
def tyX6 : Nat → FieldType := fun k => match k with
  | 0 => .object "CoastWatch$Lookouts"
  | 1 => .object "CoastWatch$Sightings"
  | 2 => .object "CoastWatch$Shape"
  | 3 => .object "CoastWatch$Plots"
  | 4 => .object "CoastWatch$Boats"
  | 5 => .object "CoastWatch$CallLog"
  | _ => .int
abbrev wsX60 : List Cond := u_ws RX6 TX6 7
theorem nmX6 : ∀ a, a < 7 → ∀ b, b < 7 → a ≠ b → (TX6 a).2.1 ≠ (TX6 b).2.1 := by decide +kernel
theorem tyX6_ok : ∀ k, k < 7 → parseFieldDescriptor (TX6 k).2.2.1 = some (tyX6 k) := by decide +kernel
abbrev cX6_init : ByteArray := prog_1_method_1_code
def yX6_init : MethodName := ⟨RX6, "<init>", "()V"⟩
abbrev cX6_post : ByteArray := prog_1_method_2_code
def yX6_post : MethodName := ⟨RX6, "post", "(III)I"⟩
abbrev cX6_reach : ByteArray := prog_1_method_3_code
def yX6_reach : MethodName := ⟨RX6, "reach", "(II)I"⟩
abbrev cX6_weather : ByteArray := prog_1_method_4_code
def yX6_weather : MethodName := ⟨RX6, "weather", "(II)Z"⟩
abbrev cX6_sees : ByteArray := prog_1_method_5_code
def yX6_sees : MethodName := ⟨RX6, "sees", "(IIII)I"⟩
abbrev cX6_manned : ByteArray := prog_1_method_6_code
def yX6_manned : MethodName := ⟨RX6, "manned", "(I)I"⟩
abbrev cX6_open : ByteArray := prog_1_method_7_code
def yX6_open : MethodName := ⟨RX6, "open", "(I)I"⟩
abbrev cX6_sight : ByteArray := prog_1_method_8_code
def yX6_sight : MethodName := ⟨RX6, "sight", "(IIIII)I"⟩
abbrev cX6_plot : ByteArray := prog_1_method_9_code
def yX6_plot : MethodName := ⟨RX6, "plot", "(II)I"⟩
abbrev cX6_corners : ByteArray := prog_1_method_10_code
def yX6_corners : MethodName := ⟨RX6, "corners", "(II)I"⟩
abbrev cX6_corner : ByteArray := prog_1_method_11_code
def yX6_corner : MethodName := ⟨RX6, "corner", "(IIII)J"⟩
abbrev cX6_box : ByteArray := prog_1_method_12_code
def yX6_box : MethodName := ⟨RX6, "box", "(III)I"⟩
abbrev cX6_plotted : ByteArray := prog_1_method_13_code
def yX6_plotted : MethodName := ⟨RX6, "plotted", "(II)I"⟩
abbrev cX6_speed : ByteArray := prog_1_method_14_code
def yX6_speed : MethodName := ⟨RX6, "speed", "(I)Z"⟩
abbrev cX6_track : ByteArray := prog_1_method_15_code
def yX6_track : MethodName := ⟨RX6, "track", "(II)I"⟩
abbrev cX6_plan : ByteArray := prog_1_method_16_code
def yX6_plan : MethodName := ⟨RX6, "plan", "(IIII)I"⟩
abbrev cX6_in : ByteArray := prog_1_method_17_code
def yX6_in : MethodName := ⟨RX6, "in", "(I)Z"⟩
abbrev cX6_boat : ByteArray := prog_1_method_18_code
def yX6_boat : MethodName := ⟨RX6, "boat", "(III)I"⟩
abbrev cX6_call : ByteArray := prog_1_method_19_code
def yX6_call : MethodName := ⟨RX6, "call", "(II)Z"⟩
abbrev cX6_step : ByteArray := prog_1_method_20_code
def yX6_step : MethodName := ⟨RX6, "step", "(I)I"⟩
abbrev cX6_log : ByteArray := prog_1_method_21_code
def yX6_log : MethodName := ⟨RX6, "log", "(II)I"⟩
abbrev cX6_count : ByteArray := prog_1_method_22_code
def yX6_count : MethodName := ⟨RX6, "count", "(I)I"⟩
abbrev cX6_meet : ByteArray := prog_1_method_23_code
def yX6_meet : MethodName := ⟨RX6, "meet", "(II)I"⟩
abbrev cX6_isWithin : ByteArray := prog_1_method_24_code
def yX6_isWithin : MethodName := ⟨RX6, "isWithin", "(III)Z"⟩
abbrev cX6_isPlace : ByteArray := prog_1_method_25_code
def yX6_isPlace : MethodName := ⟨RX6, "isPlace", "(II)Z"⟩
abbrev cX6_isHour : ByteArray := prog_1_method_26_code
def yX6_isHour : MethodName := ⟨RX6, "isHour", "(I)Z"⟩
abbrev cX6_isMinute : ByteArray := prog_1_method_27_code
def yX6_isMinute : MethodName := ⟨RX6, "isMinute", "(I)Z"⟩
abbrev cX6_isEdge : ByteArray := prog_1_method_28_code
def yX6_isEdge : MethodName := ⟨RX6, "isEdge", "(II)Z"⟩
def RX7 : String := "CoastWatchModel"
def TX7 : u_T := fun k => match k with
  | 0 => ("CoastWatchModel", "thrown", "I", false)
  | 1 => ("CoastWatchModel", "postX", "[I", true)
  | 2 => ("CoastWatchModel", "postY", "[I", true)
  | 3 => ("CoastWatchModel", "postHeight", "[I", true)
  | 4 => ("CoastWatchModel", "reachX", "[I", true)
  | 5 => ("CoastWatchModel", "reachY", "[I", true)
  | 6 => ("CoastWatchModel", "visibility", "[I", true)
  | 7 => ("CoastWatchModel", "posts", "I", false)
  | 8 => ("CoastWatchModel", "reaches", "I", false)
  | 9 => ("CoastWatchModel", "now", "I", false)
  | 10 => ("CoastWatchModel", "sightings", "I", false)
  | 11 => ("CoastWatchModel", "plots", "I", false)
  | 12 => ("CoastWatchModel", "tracks", "I", false)
  | 13 => ("CoastWatchModel", "boats", "I", false)
  | 14 => ("CoastWatchModel", "plans", "I", false)
  | 15 => ("CoastWatchModel", "calls", "I", false)
  | 16 => ("CoastWatchModel", "speed", "I", false)
  | 17 => ("CoastWatchModel", "sighting", "[I", true)
  | 18 => ("CoastWatchModel", "plotOne", "[I", true)
  | 19 => ("CoastWatchModel", "plotOther", "[I", true)
  | 20 => ("CoastWatchModel", "plotTrack", "[I", true)
  | 21 => ("CoastWatchModel", "plan", "[I", true)
  | 22 => ("CoastWatchModel", "cameIn", "[I", true)
  | 23 => ("CoastWatchModel", "rule", "[I", true)
  | 24 => ("CoastWatchModel", "logBoat", "[I", true)
  | 25 => ("CoastWatchModel", "logRule", "[I", true)
  | 26 => ("CoastWatchModel", "logMinute", "[I", true)
  | 27 => ("CoastWatchModel", "boundA", "[J", true)
  | 28 => ("CoastWatchModel", "boundB", "[J", true)
  | 29 => ("CoastWatchModel", "boundC", "[J", true)
  | 30 => ("CoastWatchModel", "cornerX", "[J", true)
  | 31 => ("CoastWatchModel", "cornerY", "[J", true)
  | 32 => ("CoastWatchModel", "cornerD", "[J", true)
  | 33 => ("CoastWatchModel", "corners", "I", false)
  | _ => ("CoastWatchModel", "box", "[J", true)
def tyX7 : Nat → FieldType := fun k => match k with
  | 0 => .int
  | 1 => .array .int
  | 2 => .array .int
  | 3 => .array .int
  | 4 => .array .int
  | 5 => .array .int
  | 6 => .array .int
  | 7 => .int
  | 8 => .int
  | 9 => .int
  | 10 => .int
  | 11 => .int
  | 12 => .int
  | 13 => .int
  | 14 => .int
  | 15 => .int
  | 16 => .int
  | 17 => .array .int
  | 18 => .array .int
  | 19 => .array .int
  | 20 => .array .int
  | 21 => .array .int
  | 22 => .array .int
  | 23 => .array .int
  | 24 => .array .int
  | 25 => .array .int
  | 26 => .array .int
  | 27 => .array .long
  | 28 => .array .long
  | 29 => .array .long
  | 30 => .array .long
  | 31 => .array .long
  | 32 => .array .long
  | 33 => .int
  | _ => .array .long
abbrev wsX70 : List Cond := u_ws RX7 TX7 35
theorem nmX7 : ∀ a, a < 35 → ∀ b, b < 35 → a ≠ b → (TX7 a).2.1 ≠ (TX7 b).2.1 := by decide +kernel
theorem tyX7_ok : ∀ k, k < 35 → parseFieldDescriptor (TX7 k).2.2.1 = some (tyX7 k) := by decide +kernel
abbrev cX7_init : ByteArray := prog_9_method_1_code
def yX7_init : MethodName := ⟨RX7, "<init>", "()V"⟩
abbrev cX7_thrown : ByteArray := prog_9_method_2_code
def yX7_thrown : MethodName := ⟨RX7, "thrown", "()I"⟩
abbrev cX7_isIn : ByteArray := prog_9_method_3_code
def yX7_isIn : MethodName := ⟨RX7, "isIn", "(III)Z"⟩
abbrev cX7_isPlace : ByteArray := prog_9_method_4_code
def yX7_isPlace : MethodName := ⟨RX7, "isPlace", "(II)Z"⟩
abbrev cX7_post : ByteArray := prog_9_method_5_code
def yX7_post : MethodName := ⟨RX7, "post", "(III)I"⟩
abbrev cX7_reach : ByteArray := prog_9_method_6_code
def yX7_reach : MethodName := ⟨RX7, "reach", "(II)I"⟩
abbrev cX7_weather : ByteArray := prog_9_method_7_code
def yX7_weather : MethodName := ⟨RX7, "weather", "(II)Z"⟩
abbrev cX7_seesAt : ByteArray := prog_9_method_8_code
def yX7_seesAt : MethodName := ⟨RX7, "seesAt", "(IIII)Z"⟩
abbrev cX7_sees : ByteArray := prog_9_method_9_code
def yX7_sees : MethodName := ⟨RX7, "sees", "(IIII)I"⟩
abbrev cX7_seenBy : ByteArray := prog_9_method_10_code
def yX7_seenBy : MethodName := ⟨RX7, "seenBy", "(II)I"⟩
abbrev cX7_bits : ByteArray := prog_9_method_11_code
def yX7_bits : MethodName := ⟨RX7, "bits", "(I)I"⟩
abbrev cX7_manned : ByteArray := prog_9_method_12_code
def yX7_manned : MethodName := ⟨RX7, "manned", "(I)I"⟩
abbrev cX7_open : ByteArray := prog_9_method_13_code
def yX7_open : MethodName := ⟨RX7, "open", "(I)I"⟩
abbrev cX7_of : ByteArray := prog_9_method_14_code
def yX7_of : MethodName := ⟨RX7, "of", "(II)I"⟩
abbrev cX7_sight : ByteArray := prog_9_method_15_code
def yX7_sight : MethodName := ⟨RX7, "sight", "(IIIII)I"⟩
abbrev cX7_bounds : ByteArray := prog_9_method_16_code
def yX7_bounds : MethodName := ⟨RX7, "bounds", "(II)V"⟩
abbrev cX7_isWithin : ByteArray := prog_9_method_17_code
def yX7_isWithin : MethodName := ⟨RX7, "isWithin", "(JJJZ)Z"⟩
abbrev cX7_isPair : ByteArray := prog_9_method_18_code
def yX7_isPair : MethodName := ⟨RX7, "isPair", "(II)Z"⟩
abbrev cX7_meets : ByteArray := prog_9_method_19_code
def yX7_meets : MethodName := ⟨RX7, "meets", "(II)I"⟩
abbrev cX7_cross : ByteArray := prog_9_method_20_code
def yX7_cross : MethodName := ⟨RX7, "cross", "(II)V"⟩
abbrev cX7_compare : ByteArray := prog_9_method_21_code
def yX7_compare : MethodName := ⟨RX7, "compare", "(IJJJ)I"⟩
abbrev cX7_plot : ByteArray := prog_9_method_22_code
def yX7_plot : MethodName := ⟨RX7, "plot", "(II)I"⟩
abbrev cX7_corners : ByteArray := prog_9_method_23_code
def yX7_corners : MethodName := ⟨RX7, "corners", "(II)I"⟩
abbrev cX7_common : ByteArray := prog_9_method_24_code
def yX7_common : MethodName := ⟨RX7, "common", "(JJ)J"⟩
abbrev cX7_corner : ByteArray := prog_9_method_25_code
def yX7_corner : MethodName := ⟨RX7, "corner", "(IIII)J"⟩
abbrev cX7_boxOf : ByteArray := prog_9_method_26_code
def yX7_boxOf : MethodName := ⟨RX7, "boxOf", "(II)V"⟩
abbrev cX7_box : ByteArray := prog_9_method_27_code
def yX7_box : MethodName := ⟨RX7, "box", "(III)I"⟩
abbrev cX7_gap : ByteArray := prog_9_method_28_code
def yX7_gap : MethodName := ⟨RX7, "gap", "(JJJJ)J"⟩
abbrev cX7_latest : ByteArray := prog_9_method_29_code
def yX7_latest : MethodName := ⟨RX7, "latest", "(I)I"⟩
abbrev cX7_plotted : ByteArray := prog_9_method_30_code
def yX7_plotted : MethodName := ⟨RX7, "plotted", "(II)I"⟩
abbrev cX7_speed : ByteArray := prog_9_method_31_code
def yX7_speed : MethodName := ⟨RX7, "speed", "(I)Z"⟩
abbrev cX7_track : ByteArray := prog_9_method_32_code
def yX7_track : MethodName := ⟨RX7, "track", "(II)I"⟩
abbrev cX7_ofPlan : ByteArray := prog_9_method_33_code
def yX7_ofPlan : MethodName := ⟨RX7, "ofPlan", "(II)I"⟩
abbrev cX7_plan : ByteArray := prog_9_method_34_code
def yX7_plan : MethodName := ⟨RX7, "plan", "(IIII)I"⟩
abbrev cX7_in : ByteArray := prog_9_method_35_code
def yX7_in : MethodName := ⟨RX7, "in", "(I)Z"⟩
abbrev cX7_lastPlan : ByteArray := prog_9_method_36_code
def yX7_lastPlan : MethodName := ⟨RX7, "lastPlan", "(II)I"⟩
abbrev cX7_stands : ByteArray := prog_9_method_37_code
def yX7_stands : MethodName := ⟨RX7, "stands", "(III)I"⟩
abbrev cX7_boat : ByteArray := prog_9_method_38_code
def yX7_boat : MethodName := ⟨RX7, "boat", "(III)I"⟩
abbrev cX7_call : ByteArray := prog_9_method_39_code
def yX7_call : MethodName := ⟨RX7, "call", "(II)Z"⟩
abbrev cX7_step : ByteArray := prog_9_method_40_code
def yX7_step : MethodName := ⟨RX7, "step", "(I)I"⟩
abbrev cX7_overdue : ByteArray := prog_9_method_41_code
def yX7_overdue : MethodName := ⟨RX7, "overdue", "(I)V"⟩
abbrev cX7_log : ByteArray := prog_9_method_42_code
def yX7_log : MethodName := ⟨RX7, "log", "(II)I"⟩
abbrev cX7_count : ByteArray := prog_9_method_43_code
def yX7_count : MethodName := ⟨RX7, "count", "(I)I"⟩
def RJ6 : String := "java/lang/Integer"
def TJ6 : u_T := fun k => match k with
  | _ => ("", "", "", false)
def tyJ6 : Nat → FieldType := fun k => match k with
  | _ => .int
abbrev wsJ60 : List Cond := u_ws RJ6 TJ6 0
theorem nmJ6 : ∀ a, a < 0 → ∀ b, b < 0 → a ≠ b → (TJ6 a).2.1 ≠ (TJ6 b).2.1 := by decide +kernel
theorem tyJ6_ok : ∀ k, k < 0 → parseFieldDescriptor (TJ6 k).2.2.1 = some (tyJ6 k) := by decide +kernel
abbrev cJ6_bitCount_0f7a4 : ByteArray := prog_11_method_49_code
def yJ6_bitCount_0f7a4 : MethodName := ⟨RJ6, "bitCount", "(I)I"⟩
def RJ13 : String := "java/lang/Long"
def TJ13 : u_T := fun k => match k with
  | _ => ("", "", "", false)
def tyJ13 : Nat → FieldType := fun k => match k with
  | _ => .int
abbrev wsJ130 : List Cond := u_ws RJ13 TJ13 0
theorem nmJ13 : ∀ a, a < 0 → ∀ b, b < 0 → a ≠ b → (TJ13 a).2.1 ≠ (TJ13 b).2.1 := by decide +kernel
theorem tyJ13_ok : ∀ k, k < 0 → parseFieldDescriptor (TJ13 k).2.2.1 = some (tyJ13 k) := by decide +kernel
abbrev cJ13_compare_74951 : ByteArray := prog_12_method_42_code
def yJ13_compare_74951 : MethodName := ⟨RJ13, "compare", "(JJ)I"⟩
def RJ9 : String := "java/lang/Math"
def TJ9 : u_T := fun k => match k with
  | _ => ("", "", "", false)
def tyJ9 : Nat → FieldType := fun k => match k with
  | _ => .int
abbrev wsJ90 : List Cond := u_ws RJ9 TJ9 0
theorem nmJ9 : ∀ a, a < 0 → ∀ b, b < 0 → a ≠ b → (TJ9 a).2.1 ≠ (TJ9 b).2.1 := by decide +kernel
theorem tyJ9_ok : ∀ k, k < 0 → parseFieldDescriptor (TJ9 k).2.2.1 = some (tyJ9 k) := by decide +kernel
abbrev cJ9_floorDiv_f86c9 : ByteArray := prog_13_method_49_code
def yJ9_floorDiv_f86c9 : MethodName := ⟨RJ9, "floorDiv", "(JJ)J"⟩
abbrev cJ9_abs_067f4 : ByteArray := prog_13_method_61_code
def yJ9_abs_067f4 : MethodName := ⟨RJ9, "abs", "(J)J"⟩
abbrev cJ9_max_f86c9 : ByteArray := prog_13_method_66_code
def yJ9_max_f86c9 : MethodName := ⟨RJ9, "max", "(JJ)J"⟩
abbrev cJ9_min_7cf53 : ByteArray := prog_13_method_69_code
def yJ9_min_7cf53 : MethodName := ⟨RJ9, "min", "(II)I"⟩
abbrev cJ9_min_f86c9 : ByteArray := prog_13_method_70_code
def yJ9_min_f86c9 : MethodName := ⟨RJ9, "min", "(JJ)J"⟩
def RJ7 : String := "java/util/Arrays"
def TJ7 : u_T := fun k => match k with
  | _ => ("", "", "", false)
def tyJ7 : Nat → FieldType := fun k => match k with
  | _ => .int
abbrev wsJ70 : List Cond := u_ws RJ7 TJ7 0
theorem nmJ7 : ∀ a, a < 0 → ∀ b, b < 0 → a ≠ b → (TJ7 a).2.1 ≠ (TJ7 b).2.1 := by decide +kernel
theorem tyJ7_ok : ∀ k, k < 0 → parseFieldDescriptor (TJ7 k).2.2.1 = some (tyJ7 k) := by decide +kernel
abbrev cJ7_fill_53178 : ByteArray := prog_16_method_103_code
def yJ7_fill_53178 : MethodName := ⟨RJ7, "fill", "([II)V"⟩
def RL : String := "CoastWatchLaw"
abbrev cL_corner : ByteArray := method_3_code
def yL_corner : MethodName := ⟨RL, "corner", "(LCoastWatch;IIII[J)I"⟩
abbrev cL_box : ByteArray := method_4_code
def yL_box : MethodName := ⟨RL, "box", "(LCoastWatch;III[J)I"⟩
abbrev cL_law : ByteArray := code
def yL_law : MethodName := ⟨RL, "law", "([I)Z"⟩
abbrev vwCl : List vw_C := [(RX0, TX0, 8), (RX1, TX1, 5), (RX2, TX2, 9), (RX3, TX3, 12), (RX4, TX4, 10), (RX5, TX5, 8), (RX6, TX6, 7), (RX7, TX7, 35)]
end
section
/-! The words that every contract takes: all good words of the tables; and the nest's links, which ride in the premises. -/
def bw : List Cond := lw_tbl.filter goodWord
theorem bw_good : GoodIn lw_tbl bw := fun w h => ⟨(List.mem_filter.mp h).1, good_of_word (List.mem_filter.mp h).2⟩
theorem bw_self : GoodIn bw bw := fun w h => ⟨h, good_of_word (List.mem_filter.mp h).2⟩
theorem bw_t {w : Cond} (i : Nat) (h : tables_1[i]? = some w) (hg : goodWord w = true) : w ∈ bw := List.mem_filter.mpr ⟨List.mem_append_right _ (List.mem_of_getElem? h), hg⟩
theorem bw_p {w : Cond} (i : Nat) (h : (k2_sels lw_privs)[i]? = some w) (hg : goodWord w = true) : w ∈ bw := List.mem_filter.mpr ⟨List.mem_append_left _ (List.mem_of_getElem? h), hg⟩
theorem bw_ts (ws : List Cond) (ps : List Nat) (h : ws = ps.filterMap (fun i => tables_1[i]?)) (hg : ws.all goodWord = true) : ∀ w ∈ ws, w ∈ bw := by
  intro w hw
  have h1 := List.all_eq_true.mp hg w hw
  rw [h] at hw
  obtain ⟨i, -, hi⟩ := List.mem_filterMap.mp hw
  exact bw_t i hi h1
def rz_nest : Cond → Bool
  | .fieldLinkNest .. => true
  | .methodLinkNest .. => true
  | _ => false
def rz_NW (U : State) : Prop := ∀ w ∈ tables_1, rz_nest w = true → va_Nw w U
theorem rz_NW.same {u U : State} (h : u.vm = U.vm) (hn : rz_NW u) : rz_NW U := fun w hw hi => by
  have h1 := hn w hw hi
  cases w with
  | fieldLinkNest a b c d e f => exact va_Nw.same rfl h h1
  | methodLinkNest a b c d => exact va_Nw.same rfl h h1
  | _ => cases hi
theorem rz_NW.warm {s U : State} (h : s.WarmedH U.vm) (hn : rz_NW s) : rz_NW U := fun w hw hi => by
  have h1 := hn w hw hi
  cases w with
  | fieldLinkNest a b c d e f => exact va_Nw.warmF h h1
  | methodLinkNest a b c d => exact va_Nw.warmM h h1
  | _ => cases hi
theorem rz_NW.of {A : Array Value} {s : State} (h : ∀ w ∈ tables_1, w.before A s = true) : rz_NW s := fun w hw hi => by
  have h1 := h w hw
  cases w with
  | fieldLinkNest a b c d e f => exact va_Nw.of rfl h1
  | methodLinkNest a b c d => exact va_Nw.of rfl h1
  | _ => cases hi
end
section
/-! An abstract machine over named cells: rz_wp computes, for the code of one method, what must hold for it to end well; rz_sound (next part): then the machine itself does. -/
abbrev rz_C : Type := (Nat × List Value) ⊕ ((Nat × (Nat → Int32)) ⊕ (Nat × (Nat → Int64)))
abbrev rz_W : Type := List (Nat × rz_C)
abbrev rz_L : Type := List (Nat × Value)
/-- an instruction, the next place, the target (or the local, or a new cell's name), a number, its int and its long constant -/
abbrev rz_I : Type := Instr × Nat × Nat × Nat × Int32 × Int64
/-- a callee: how many arguments (the receiver too), its cells, its answer (0 int, 1 long, else none), whether it leaves all cells as they are, what it wants, what it gives -/
abbrev rz_K : Type := Nat × List Nat × Nat × Bool × (List Value → rz_W → Prop) × (List Value → rz_W → Option Value → rz_W → Prop)
def rz_get {α : Type} : List (Nat × α) → Nat → Option α
  | [], _ => none
  | (k, v) :: r, i => match Nat.beq k i with
    | true => some v
    | false => rz_get r i
def rz_set {α : Type} : List (Nat × α) → Nat → α → List (Nat × α)
  | [], _, _ => []
  | (k, v) :: r, i, x => match Nat.beq k i with
    | true => (k, x) :: r
    | false => (k, v) :: rz_set r i x
def rz_pos {α : Type} : List (Nat × α) → Nat → Nat
  | [], _ => 0
  | (k, _) :: r, i => match Nat.beq k i with
    | true => 0
    | false => rz_pos r i + 1
def rz_pop : Nat → List Value → List Value → Option (List Value × List Value)
  | 0, st, acc => some (acc, st)
  | _ + 1, [], _ => none
  | n + 1, v :: st, acc => rz_pop n st (v :: acc)
def rz_sub (w : rz_W) : List Nat → Option rz_W
  | [] => some []
  | k :: ks => match rz_get w k with
    | some c => match rz_sub w ks with
      | some r => some ((k, c) :: r)
      | none => none
    | none => none
def rz_back (w : rz_W) : rz_W → rz_W
  | [] => w
  | (k, c) :: r => rz_back (rz_set w k c) r
def rz_two : Value → Bool
  | .long _ => true
  | .double _ => true
  | _ => false
def rz_ins (i : Nat) (v : Value) : rz_L → rz_L
  | [] => [(i, v)]
  | (k, u) :: r => match Nat.ble i k with
    | true => (i, v) :: (k, u) :: r
    | false => (k, u) :: rz_ins i v r
def rz_cut1 (i : Nat) : rz_L → rz_L
  | [] => []
  | (k, u) :: r => match Nat.beq k i || (Nat.beq (k + 1) i && rz_two u) with
    | true => rz_cut1 i r
    | false => (k, u) :: rz_cut1 i r
def rz_cut2 (i : Nat) : rz_L → rz_L
  | [] => []
  | (k, u) :: r => match Nat.beq k i || (Nat.beq k (i + 1) || (Nat.beq (k + 1) i && rz_two u)) with
    | true => rz_cut2 i r
    | false => (k, u) :: rz_cut2 i r
def rz_st1 (lv : rz_L) (i : Nat) (v : Value) : rz_L := rz_ins i v (rz_cut1 i lv)
def rz_st2 (lv : rz_L) (i : Nat) (v : Value) : rz_L := rz_ins i v (rz_cut2 i lv)
def rz_mem (i : Nat) : List Nat → Bool
  | [] => false
  | k :: r => match Nat.beq k i with
    | true => true
    | false => rz_mem i r
def rz_keep (ks : List Nat) : rz_L → rz_L
  | [] => []
  | (k, u) :: r => match rz_mem k ks with
    | true => (k, u) :: rz_keep ks r
    | false => rz_keep ks r
def rz_words : List Value → Nat
  | [] => 0
  | v :: r => match rz_two v with
    | true => rz_words r + 2
    | false => rz_words r + 1
/-- no reference to the cell of this name -/
def rz_no1 (k : Nat) : Value → Bool
  | .ref a => !Nat.beq a k
  | _ => true
def rz_noL (k : Nat) : List Value → Bool
  | [] => true
  | v :: r => rz_no1 k v && rz_noL k r
def rz_noV (k : Nat) : rz_L → Bool
  | [] => true
  | (_, v) :: r => rz_no1 k v && rz_noV k r
def rz_noW (k : Nat) : rz_W → Bool
  | [] => true
  | (i, .inl (_, fs)) :: r => !Nat.beq i k && (rz_noL k fs && rz_noW k r)
  | (i, .inr _) :: r => !Nat.beq i k && rz_noW k r
def rz_pi (st : List Value) (k : Int32 → List Value → Prop) : Prop := match st with
  | .int x :: r => k x r
  | _ => False
def rz_pl (st : List Value) (k : Int64 → List Value → Prop) : Prop := match st with
  | .long x :: r => k x r
  | _ => False
def rz_pr (st : List Value) (k : Nat → List Value → Prop) : Prop := match st with
  | .ref x :: r => k x r
  | _ => False
def rz_gi (lv : rz_L) (i : Nat) (k : Int32 → Prop) : Prop := match rz_get lv i with
  | some (.int x) => k x
  | _ => False
def rz_gl (lv : rz_L) (i : Nat) (k : Int64 → Prop) : Prop := match rz_get lv i with
  | some (.long x) => k x
  | _ => False
def rz_gr (lv : rz_L) (i : Nat) (k : Nat → Prop) : Prop := match rz_get lv i with
  | some (.ref x) => k x
  | _ => False
def rz_ob (w : rz_W) (a ci : Nat) (k : List Value → Prop) : Prop := match rz_get w a with
  | some (.inl (cj, fs)) => match Nat.beq cj ci with
    | true => k fs
    | false => False
  | _ => False
def rz_ai (w : rz_W) (a : Nat) (k : Nat → (Nat → Int32) → Prop) : Prop := match rz_get w a with
  | some (.inr (.inl (n, f))) => k n f
  | _ => False
def rz_al (w : rz_W) (a : Nat) (k : Nat → (Nat → Int64) → Prop) : Prop := match rz_get w a with
  | some (.inr (.inr (n, f))) => k n f
  | _ => False
def rz_op {α : Type} (o : Option α) (k : α → Prop) : Prop := match o with
  | some x => k x
  | none => False
def rz_if (b : Bool) (k : Prop) : Prop := match b with
  | true => k
  | false => False
def rz_ret (rk : Nat) (k : Option Value → List Value → Prop) : Prop := match rk with
  | 0 => ∀ r : Int32, k (some (.int r)) [.int r]
  | 1 => ∀ r : Int64, k (some (.long r)) [.long r]
  | _ => k none []
def rz_kept (kp : Bool) (post : rz_W → Prop) (wc w : rz_W) (k : rz_W → Prop) : Prop := match kp with
  | true => post wc → k w
  | false => ∀ wc' : rz_W, post wc' → k (rz_back w wc')
def rz_app : List Value → List Value → List Value
  | [], b => b
  | v :: a, b => v :: rz_app a b
def rz_call (ce : rz_K) (st : List Value) (w : rz_W) (K : List Value → rz_W → Prop) : Prop :=
  rz_op (rz_pop ce.1 st []) fun q => rz_op (rz_sub w ce.2.1) fun wc => rz_if (Nat.ble (rz_words q.2) 8) (ce.2.2.2.2.1 q.1 wc ∧ rz_ret ce.2.2.1 (fun o vs => rz_kept ce.2.2.2.1 (ce.2.2.2.2.2 q.1 wc o) wc w (fun w' => K (rz_app vs q.2) w')))
def rz_sw (x : Int32) (K : Nat → Prop) (d : Nat) : List (Int32 × Nat) → Prop
  | [] => K d
  | (v, t) :: r => (x = v → K t) ∧ (¬ x = v → rz_sw x K d r)
def rz_c0 (cd : ClassFile.Cond) (x : Int32) (A B : Prop) : Prop := match cd with
  | .eq => (x = 0 → A) ∧ (¬ x = 0 → B)
  | .ne => (x = 0 → B) ∧ (¬ x = 0 → A)
  | .lt => (x < 0 → A) ∧ (¬ x < 0 → B)
  | .ge => (0 ≤ x → A) ∧ (¬ 0 ≤ x → B)
  | .gt => (0 < x → A) ∧ (¬ 0 < x → B)
  | .le => (x ≤ 0 → A) ∧ (¬ x ≤ 0 → B)
def rz_c2 (cd : ClassFile.Cond) (x y : Int32) (A B : Prop) : Prop := match cd with
  | .eq => (x = y → A) ∧ (¬ x = y → B)
  | .ne => (x = y → B) ∧ (¬ x = y → A)
  | .lt => (x < y → A) ∧ (¬ x < y → B)
  | .ge => (y ≤ x → A) ∧ (¬ y ≤ x → B)
  | .gt => (y < x → A) ∧ (¬ y < x → B)
  | .le => (x ≤ y → A) ∧ (¬ x ≤ y → B)
/-- one instruction: fld: a pool number's class and field; cal: its callee; sw: a switch's cases; bz: the answer is a truth value -/
def rz_stp (fld : List (Nat × Nat × Nat × Bool)) (cal cav : List (Nat × rz_K)) (sw : List (Int32 × Nat)) (bz : Bool) (RC RS : Nat) (Q : Option Value → rz_W → Prop) (K : Nat → rz_L → List Value → rz_W → Nat → Nat → Prop)
    (i : Instr) (nx tg na : Nat) (ci : Int32) (cl : Int64) (lv : rz_L) (st : List Value) (w : rz_W) (cs sl : Nat) : Prop := match i with
  | .iconst _ => K nx lv (.int ci :: st) w cs sl
  | .bipush _ => K nx lv (.int ci :: st) w cs sl
  | .sipush _ => K nx lv (.int ci :: st) w cs sl
  | .lconst _ => K nx lv (.long cl :: st) w cs sl
  | .iload _ => rz_gi lv tg fun x => K nx lv (.int x :: st) w cs sl
  | .iload_n _ => rz_gi lv tg fun x => K nx lv (.int x :: st) w cs sl
  | .lload _ => rz_gl lv tg fun x => K nx lv (.long x :: st) w cs sl
  | .lload_n _ => rz_gl lv tg fun x => K nx lv (.long x :: st) w cs sl
  | .aload _ => rz_gr lv tg fun x => K nx lv (.ref x :: st) w cs sl
  | .aload_n _ => rz_gr lv tg fun x => K nx lv (.ref x :: st) w cs sl
  | .istore _ => rz_pi st fun x r => ∀ v : Int32, v = x → K nx (rz_st1 lv tg (.int v)) r w cs sl
  | .istore_n _ => rz_pi st fun x r => ∀ v : Int32, v = x → K nx (rz_st1 lv tg (.int v)) r w cs sl
  | .lstore _ => rz_pl st fun x r => ∀ v : Int64, v = x → K nx (rz_st2 lv tg (.long v)) r w cs sl
  | .lstore_n _ => rz_pl st fun x r => ∀ v : Int64, v = x → K nx (rz_st2 lv tg (.long v)) r w cs sl
  | .astore _ => rz_pr st fun x r => K nx (rz_st1 lv tg (.ref x)) r w cs sl
  | .astore_n _ => rz_pr st fun x r => K nx (rz_st1 lv tg (.ref x)) r w cs sl
  | .iinc _ _ => rz_gi lv tg fun x => ∀ v : Int32, v = x + ci → K nx (rz_st1 lv tg (.int v)) st w cs sl
  | .iadd => rz_pi st fun y r => rz_pi r fun x r => K nx lv (.int (x + y) :: r) w cs sl
  | .isub => rz_pi st fun y r => rz_pi r fun x r => K nx lv (.int (x - y) :: r) w cs sl
  | .imul => rz_pi st fun y r => rz_pi r fun x r => K nx lv (.int (x * y) :: r) w cs sl
  | .iand => rz_pi st fun y r => rz_pi r fun x r => K nx lv (.int (x &&& y) :: r) w cs sl
  | .ior => rz_pi st fun y r => rz_pi r fun x r => K nx lv (.int (x ||| y) :: r) w cs sl
  | .ixor => rz_pi st fun y r => rz_pi r fun x r => K nx lv (.int (x ^^^ y) :: r) w cs sl
  | .irem => rz_pi st fun y r => rz_pi r fun x r => ¬ y = 0 ∧ K nx lv (.int (x - x / y * y) :: r) w cs sl
  | .ineg => rz_pi st fun x r => K nx lv (.int (-x) :: r) w cs sl
  | .ishl => rz_pi st fun y r => rz_pi r fun x r => K nx lv (.int (x <<< (y &&& 31)) :: r) w cs sl
  | .ishr => rz_pi st fun y r => rz_pi r fun x r => K nx lv (.int (x >>> (y &&& 31)) :: r) w cs sl
  | .iushr => rz_pi st fun y r => rz_pi r fun x r => K nx lv (.int (x.toUInt32 >>> (y.toUInt32 &&& Int32.toUInt32 31)).toInt32 :: r) w cs sl
  | .ladd => rz_pl st fun y r => rz_pl r fun x r => K nx lv (.long (x + y) :: r) w cs sl
  | .lsub => rz_pl st fun y r => rz_pl r fun x r => K nx lv (.long (x - y) :: r) w cs sl
  | .lmul => rz_pl st fun y r => rz_pl r fun x r => K nx lv (.long (x * y) :: r) w cs sl
  | .lxor => rz_pl st fun y r => rz_pl r fun x r => K nx lv (.long (x ^^^ y) :: r) w cs sl
  | .ldiv => rz_pl st fun y r => rz_pl r fun x r => ¬ y = 0 ∧ K nx lv (.long (x / y) :: r) w cs sl
  | .lrem => rz_pl st fun y r => rz_pl r fun x r => ¬ y = 0 ∧ K nx lv (.long (x - x / y * y) :: r) w cs sl
  | .lneg => rz_pl st fun x r => K nx lv (.long (-x) :: r) w cs sl
  | .lcmp => rz_pl st fun y r => rz_pl r fun x r => K nx lv (.int (lg_cmp x y) :: r) w cs sl
  | .i2l => rz_pi st fun x r => K nx lv (.long x.toInt64 :: r) w cs sl
  | .l2i => rz_pl st fun x r => K nx lv (.int x.toInt32 :: r) w cs sl
  | .dup => match st with
    | .int x :: r => K nx lv (.int x :: .int x :: r) w cs sl
    | .ref x :: r => K nx lv (.ref x :: .ref x :: r) w cs sl
    | _ => False
  | .ifCond cd _ => rz_pi st fun x r => rz_c0 cd x (K tg lv r w cs sl) (K nx lv r w cs sl)
  | .if_icmp cd _ => rz_pi st fun y r => rz_pi r fun x r => rz_c2 cd x y (K tg lv r w cs sl) (K nx lv r w cs sl)
  | .goto _ => K tg lv st w cs sl
  | .tableswitch _ _ _ _ => rz_pi st fun x r => rz_sw x (fun t => K t lv r w cs sl) tg sw
  | .getfield ix => rz_pr st fun a r => rz_op (rz_get fld ix) fun q => rz_ob w a q.1 fun fs => rz_op fs[q.2.1]? fun v => K nx lv (v :: r) w cs sl
  | .putfield ix => rz_pi st fun x r => rz_pr r fun a r => rz_op (rz_get fld ix) fun q => rz_ob w a q.1 fun fs => rz_if (q.2.2 && Nat.blt q.2.1 fs.length) (K nx lv r (rz_set w a (.inl (q.1, fs.set q.2.1 (.int x)))) cs sl)
  | .iaload => rz_pi st fun j r => rz_pr r fun a r => rz_ai w a fun n f => vp_in j n ∧ K nx lv (.int (f j.toNatClampNeg) :: r) w cs sl
  | .laload => rz_pi st fun j r => rz_pr r fun a r => rz_al w a fun n f => vp_in j n ∧ K nx lv (.long (f j.toNatClampNeg) :: r) w cs sl
  | .iastore => rz_pi st fun x r => rz_pi r fun j r => rz_pr r fun a r => rz_ai w a fun n f => vp_in j n ∧ K nx lv r (rz_set w a (.inr (.inl (n, upd f j.toNatClampNeg x)))) cs sl
  | .lastore => rz_pl st fun x r => rz_pi r fun j r => rz_pr r fun a r => rz_al w a fun n f => vp_in j n ∧ K nx lv r (rz_set w a (.inr (.inr (n, vp_updL f j.toNatClampNeg x)))) cs sl
  | .arraylength => rz_pr st fun a r => rz_ai w a fun n _ => K nx lv (.int (nI n) :: r) w cs sl
  | .newarray _ => rz_pi st fun x r => rz_if (rz_noV tg lv && (rz_noL tg r && rz_noW tg w)) (x = ci ∧ cs + 1 ≤ RC ∧ sl + na ≤ RS ∧ K nx lv (.ref tg :: r) (w ++ [(tg, .inr (.inl (na, fun _ => 0)))]) (cs + 1) (sl + na))
  | .invokestatic ix => rz_op (rz_get cal ix) fun ce => rz_call ce st w fun st' w' => K nx lv st' w' cs sl
  | .invokevirtual ix => rz_op (rz_get cav ix) fun ce => rz_call ce st w fun st' w' => K nx lv st' w' cs sl
  | .ireturn => rz_pi st fun x r => match r, bz with
    | [], false => Q (some (.int x)) w
    | [], true => (x = 0 ∨ x = 1) ∧ Q (some (.int x)) w
    | _, _ => False
  | .lreturn => rz_pl st fun x r => match r with
    | [] => Q (some (.long x)) w
    | _ => False
  | .return_ => match st with
    | [] => Q none w
    | _ => False
  | _ => False
/-- a loop's head: which locals stay, and what holds there, by a number that falls -/
abbrev rz_J : Type := List Nat × (Nat → rz_L → rz_W → Prop)
/-- what a method hangs on: its code, fields, callees, switch, kind of answer, room, loops, end -/
def rz_run (cod : List (Nat × rz_I)) (fld : List (Nat × Nat × Nat × Bool)) (cal cav : List (Nat × rz_K)) (sw : List (Int32 × Nat)) (bz : Bool) (RC RS : Nat) (J : List (Nat × rz_J)) (Q : Option Value → rz_W → Prop) (n0 : Nat) : Nat → Nat → rz_L → List Value → rz_W → Nat → Nat → Prop
  | 0, _, _, _, _, _, _ => False
  | n + 1, pc, lv, st, w, cs, sl => rz_op (rz_get cod pc) fun i => rz_stp fld cal cav sw bz RC RS Q
      (fun pc lv st w cs sl => match rz_get J pc with
        | some j => match st with
          | [] => ∃ k, k < n0 ∧ j.2 k (rz_keep j.1 lv) w
          | _ => False
        | none => rz_run cod fld cal cav sw bz RC RS J Q n0 n pc lv st w cs sl) i.1 i.2.1 i.2.2.1 i.2.2.2.1 i.2.2.2.2.1 i.2.2.2.2.2 lv st w cs sl
end
section
/-! What the named cells are on the heap, and the lemmas on lists that the soundness of rz_run takes. -/
def rz_v (adr : Nat → Nat) : Value → Value
  | .ref k => .ref (adr k)
  | v => v
def rz_e (cI cJ : ClassId) (adr : Nat → Nat) : rz_C → va_E
  | .inl (ci, fs) => .inr (ci, fs.map (rz_v adr))
  | .inr (.inl (n, f)) => .inl (cI, n, .inl f)
  | .inr (.inr (n, f)) => .inl (cJ, n, .inr (.inl f))
def rz_c (cI cJ : ClassId) (adr : Nat → Nat) (w : rz_W) : va_W := w.map (fun q => (adr q.1, rz_e cI cJ adr q.2))
def rz_l (adr : Nat → Nat) (lv : rz_L) : rz_L := lv.map (fun q => (q.1, rz_v adr q.2))
def rz_D (adr : Nat → Nat) (A : Nat → Prop) (ks : List Nat) : Prop := ks.Nodup ∧ (∀ i ∈ ks, ∀ j ∈ ks, adr i = adr j → i = j) ∧ ∀ i ∈ ks, A (adr i)
theorem rz_beq {k i : Nat} (h : Nat.beq k i = true) : k = i := Nat.eq_of_beq_eq_true h
theorem rz_nbeq {k i : Nat} (h : Nat.beq k i = false) : k ≠ i := Nat.ne_of_beq_eq_false h
theorem rz_get_mem {α : Type} : ∀ {l : List (Nat × α)} {i : Nat} {v : α}, rz_get l i = some v → (i, v) ∈ l
  | [], _, _, h => by cases h
  | (k, u) :: r, i, v, h => by
    unfold rz_get at h
    cases hb : Nat.beq k i with
    | true =>
      rw [hb] at h
      cases h
      rw [rz_beq hb]
      exact List.mem_cons_self
    | false =>
      rw [hb] at h
      exact List.mem_cons_of_mem _ (rz_get_mem h)
theorem rz_get_pos {cI cJ : ClassId} {adr : Nat → Nat} : ∀ {w : rz_W} {i : Nat} {x : rz_C}, rz_get w i = some x → (rz_c cI cJ adr w)[rz_pos w i]? = some (adr i, rz_e cI cJ adr x)
  | [], _, _, h => by cases h
  | (k, u) :: r, i, x, h => by
    unfold rz_get at h
    unfold rz_pos
    cases hb : Nat.beq k i with
    | true =>
      rw [hb] at h
      cases h
      rw [rz_beq hb]
      rfl
    | false =>
      rw [hb] at h
      exact rz_get_pos (cI := cI) (cJ := cJ) (adr := adr) (w := r) h
theorem rz_set_pos {cI cJ : ClassId} {adr : Nat → Nat} {y : rz_C} : ∀ {w : rz_W} {i : Nat} {x : rz_C}, rz_get w i = some x → (rz_c cI cJ adr w).set (rz_pos w i) (adr i, rz_e cI cJ adr y) = rz_c cI cJ adr (rz_set w i y)
  | [], _, _, h => by cases h
  | (k, u) :: r, i, x, h => by
    unfold rz_get at h
    unfold rz_pos rz_set
    cases hb : Nat.beq k i with
    | true =>
      rw [hb] at h
      rw [rz_beq hb]
      rfl
    | false =>
      rw [hb] at h
      have ih := rz_set_pos (cI := cI) (cJ := cJ) (adr := adr) (y := y) (w := r) h
      show (adr k, rz_e cI cJ adr u) :: ((rz_c cI cJ adr r).set (rz_pos r i) (adr i, rz_e cI cJ adr y)) = (adr k, rz_e cI cJ adr u) :: rz_c cI cJ adr (rz_set r i y)
      rw [ih]
theorem rz_set_keys {α : Type} (y : α) : ∀ (w : List (Nat × α)) (i : Nat), (rz_set w i y).map Prod.fst = w.map Prod.fst
  | [], _ => rfl
  | (k, u) :: r, i => by
    unfold rz_set
    cases hb : Nat.beq k i with
    | true => rfl
    | false =>
      show k :: ((rz_set r i y).map Prod.fst) = k :: (r.map Prod.fst)
      rw [rz_set_keys y r i]
theorem rz_set_mem {α : Type} {y : α} : ∀ {w : List (Nat × α)} {i : Nat} {q : Nat × α}, (w.map Prod.fst).Nodup → q ∈ rz_set w i y → q = (i, y) ∨ (q ∈ w ∧ q.1 ≠ i)
  | [], _, _, _, h => by cases h
  | (k, u) :: r, i, q, hn, h => by
    have hn2 := List.nodup_cons.mp (show (k :: r.map Prod.fst).Nodup from hn)
    unfold rz_set at h
    cases hb : Nat.beq k i with
    | true =>
      rw [hb] at h
      have e := rz_beq hb
      rcases List.mem_cons.mp h with h | h
      · left; rw [h, e]
      · right
        refine ⟨List.mem_cons_of_mem _ h, fun z => hn2.1 ?_⟩
        rw [e, ← z]
        exact List.mem_map.mpr ⟨q, h, rfl⟩
    | false =>
      rw [hb] at h
      rcases List.mem_cons.mp h with h | h
      · right
        rw [h]
        exact ⟨List.mem_cons_self, rz_nbeq hb⟩
      · rcases rz_set_mem hn2.2 h with h | h
        · exact Or.inl h
        · exact Or.inr ⟨List.mem_cons_of_mem _ h.1, h.2⟩
theorem rz_back_keys : ∀ (wc w : rz_W), (rz_back w wc).map Prod.fst = w.map Prod.fst
  | [], _ => rfl
  | (k, x) :: r, w => by
    unfold rz_back
    rw [rz_back_keys r (rz_set w k x), rz_set_keys]
theorem rz_back_mem : ∀ {wc w : rz_W} {q : Nat × rz_C}, (w.map Prod.fst).Nodup → q ∈ rz_back w wc → q ∈ wc ∨ (q ∈ w ∧ q.1 ∉ wc.map Prod.fst)
  | [], w, q, _, h => Or.inr ⟨h, List.not_mem_nil⟩
  | (k, x) :: r, w, q, hn, h => by
    unfold rz_back at h
    rcases rz_back_mem (by rw [rz_set_keys]; exact hn) h with h | h
    · exact Or.inl (List.mem_cons_of_mem _ h)
    · rcases rz_set_mem hn h.1 with e | e
      · left; rw [e]; exact List.mem_cons_self
      · right
        refine ⟨e.1, fun z => ?_⟩
        rcases List.mem_cons.mp (show q.1 ∈ k :: r.map Prod.fst from z) with z | z
        · exact e.2 z
        · exact h.2 z
theorem rz_sub_keys {w : rz_W} : ∀ {ks : List Nat} {wc : rz_W}, rz_sub w ks = some wc → wc.map Prod.fst = ks ∧ ∀ q ∈ wc, q ∈ w
  | [], wc, h => by cases h; exact ⟨rfl, fun q h => by cases h⟩
  | k :: ks, wc, h => by
    unfold rz_sub at h
    cases hg : rz_get w k with
    | none => rw [hg] at h; cases h
    | some x =>
      rw [hg] at h
      cases hs : rz_sub w ks with
      | none => rw [hs] at h; cases h
      | some r =>
        rw [hs] at h
        cases h
        obtain ⟨h1, h2⟩ := rz_sub_keys hs
        refine ⟨by show k :: r.map Prod.fst = k :: ks; rw [h1], fun q hq => ?_⟩
        rcases List.mem_cons.mp hq with e | e
        · rw [e]; exact rz_get_mem hg
        · exact h2 q e
theorem rz_P_iff {D : va_G} {cl : List vw_C} {cI cJ : ClassId} {adr : Nat → Nat} {w : rz_W} {H : Heap} : va_P D cl (rz_c cI cJ adr w) H ↔ ∀ q ∈ w, va_at D cl (adr q.1, rz_e cI cJ adr q.2) H := by
  constructor
  · intro h q hq
    have h1 : (adr q.1, rz_e cI cJ adr q.2) ∈ rz_c cI cJ adr w := List.mem_map.mpr ⟨q, hq, rfl⟩
    obtain ⟨k, hk⟩ := List.getElem?_of_mem h1
    exact h k _ hk
  · intro h k q hk
    obtain ⟨z, hz, e⟩ := List.mem_map.mp (List.mem_of_getElem? hk)
    rw [← e]
    exact h z hz
theorem rz_nodup_inj {α : Type} : ∀ {l : List α}, l.Nodup → ∀ {i j : Nat} {a : α}, l[i]? = some a → l[j]? = some a → i = j
  | [], _, i, j, a, h, _ => by simp at h
  | b :: r, hn, 0, 0, a, _, _ => rfl
  | b :: r, hn, 0, j + 1, a, h1, h2 => by
    have h3 := List.nodup_cons.mp hn
    simp at h1 h2
    exact absurd (List.mem_of_getElem? h2) (by rw [← h1]; exact h3.1)
  | b :: r, hn, i + 1, 0, a, h1, h2 => by
    have h3 := List.nodup_cons.mp hn
    simp at h1 h2
    exact absurd (List.mem_of_getElem? h1) (by rw [← h2]; exact h3.1)
  | b :: r, hn, i + 1, j + 1, a, h1, h2 => by
    have h3 := List.nodup_cons.mp hn
    simp at h1 h2
    rw [rz_nodup_inj h3.2 h1 h2]
theorem rz_D.va {cI cJ : ClassId} {adr : Nat → Nat} {A : Nat → Prop} {w : rz_W} (h : rz_D adr A (w.map Prod.fst)) : va_D A (rz_c cI cJ adr w) := by
  obtain ⟨h1, h2, h3⟩ := h
  constructor
  · intro i j p q hi hj he
    have gi : ∃ z, w[i]? = some z ∧ (adr z.1, rz_e cI cJ adr z.2) = p := by
      have : (w.map (fun q => (adr q.1, rz_e cI cJ adr q.2)))[i]? = some p := hi
      rw [List.getElem?_map] at this
      cases hw : w[i]? with
      | none => rw [hw] at this; cases this
      | some z => rw [hw] at this; exact ⟨z, rfl, Option.some.inj this⟩
    have gj : ∃ z, w[j]? = some z ∧ (adr z.1, rz_e cI cJ adr z.2) = q := by
      have : (w.map (fun q => (adr q.1, rz_e cI cJ adr q.2)))[j]? = some q := hj
      rw [List.getElem?_map] at this
      cases hw : w[j]? with
      | none => rw [hw] at this; cases this
      | some z => rw [hw] at this; exact ⟨z, rfl, Option.some.inj this⟩
    obtain ⟨z1, e1, f1⟩ := gi
    obtain ⟨z2, e2, f2⟩ := gj
    rw [← f1, ← f2] at he
    have e3 := h2 z1.1 (List.mem_map.mpr ⟨z1, List.mem_of_getElem? e1, rfl⟩) z2.1 (List.mem_map.mpr ⟨z2, List.mem_of_getElem? e2, rfl⟩) he
    refine rz_nodup_inj h1 (a := z1.1) ?_ ?_
    · rw [List.getElem?_map, e1]; rfl
    · rw [List.getElem?_map, e2, e3]; rfl
  · intro k q hk
    obtain ⟨z, hz, e⟩ := List.mem_map.mp (List.mem_of_getElem? hk)
    rw [← e]
    exact h3 _ (List.mem_map.mpr ⟨z, hz, rfl⟩)
theorem rz_D.of_va {cI cJ : ClassId} {adr : Nat → Nat} {A : Nat → Prop} {w : rz_W} (h : va_D A (rz_c cI cJ adr w)) : rz_D adr A (w.map Prod.fst) := by
  have hm : ∀ (i k : Nat), (w.map Prod.fst)[i]? = some k → ∃ z, w[i]? = some z ∧ z.1 = k ∧ (rz_c cI cJ adr w)[i]? = some (adr k, rz_e cI cJ adr z.2) := by
    intro i k hi
    rw [List.getElem?_map] at hi
    cases hw : w[i]? with
    | none => rw [hw] at hi; cases hi
    | some z =>
      rw [hw] at hi
      have e : z.1 = k := Option.some.inj hi
      refine ⟨z, rfl, e, ?_⟩
      show (w.map _)[i]? = _
      rw [List.getElem?_map, hw, ← e]
      rfl
  refine ⟨?_, ?_, ?_⟩
  · rw [List.nodup_iff_pairwise_ne, List.pairwise_iff_getElem]
    intro i j hi hj hij e
    obtain ⟨z1, a1, b1, c1⟩ := hm i _ (List.getElem?_eq_getElem hi)
    obtain ⟨z2, a2, b2, c2⟩ := hm j _ (List.getElem?_eq_getElem hj)
    have := h.1 i j _ _ c1 c2 (by show adr _ = adr _; rw [e])
    omega
  · intro a ha b hb e
    obtain ⟨i, hi⟩ := List.getElem?_of_mem ha
    obtain ⟨j, hj⟩ := List.getElem?_of_mem hb
    obtain ⟨z1, a1, b1, c1⟩ := hm i _ hi
    obtain ⟨z2, a2, b2, c2⟩ := hm j _ hj
    have := h.1 i j _ _ c1 c2 e
    subst this
    rw [hi] at hj
    exact Option.some.inj hj
  · intro a ha
    obtain ⟨i, hi⟩ := List.getElem?_of_mem ha
    obtain ⟨z1, a1, b1, c1⟩ := hm i _ hi
    exact h.2 i _ c1
theorem rz_two_cat (adr : Nat → Nat) (u : Value) : ((rz_v adr u).category == 2) = rz_two u := by cases u <;> rfl
theorem rz_cat (adr : Nat → Nat) (u : Value) : (rz_v adr u).category = if rz_two u then 2 else 1 := by cases u <;> rfl
theorem rz_words_sum (adr : Nat → Nat) : ∀ st : List Value, ((st.map (rz_v adr)).map fun v => v.category).sum = rz_words st
  | [] => rfl
  | v :: r => by
    show (rz_v adr v).category + ((r.map (rz_v adr)).map fun v => v.category).sum = rz_words (v :: r)
    rw [rz_words_sum adr r, rz_cat]
    show (if rz_two v = true then 2 else 1) + rz_words r = match rz_two v with
      | true => rz_words r + 2
      | false => rz_words r + 1
    cases h : rz_two v
    · show 1 + rz_words r = rz_words r + 1
      omega
    · show 2 + rz_words r = rz_words r + 2
      omega
theorem rz_ins_mem {i : Nat} {v : Value} : ∀ {l : rz_L} {q : Nat × Value}, q ∈ rz_ins i v l → q = (i, v) ∨ q ∈ l
  | [], q, h => by
    rcases List.mem_cons.mp h with h | h
    · exact Or.inl h
    · cases h
  | (k, u) :: r, q, h => by
    unfold rz_ins at h
    cases hb : Nat.ble i k with
    | true =>
      rw [hb] at h
      rcases List.mem_cons.mp h with h | h
      · exact Or.inl h
      · exact Or.inr h
    | false =>
      rw [hb] at h
      rcases List.mem_cons.mp h with h | h
      · right; rw [h]; exact List.mem_cons_self
      · rcases rz_ins_mem h with h | h
        · exact Or.inl h
        · exact Or.inr (List.mem_cons_of_mem _ h)
theorem rz_cut1_mem {i : Nat} : ∀ {l : rz_L} {q : Nat × Value}, q ∈ rz_cut1 i l → q ∈ l ∧ (Nat.beq q.1 i || (Nat.beq (q.1 + 1) i && rz_two q.2)) = false
  | [], q, h => by cases h
  | (k, u) :: r, q, h => by
    unfold rz_cut1 at h
    cases hb : (Nat.beq k i || (Nat.beq (k + 1) i && rz_two u)) with
    | true =>
      rw [hb] at h
      obtain ⟨h1, h2⟩ := rz_cut1_mem h
      exact ⟨List.mem_cons_of_mem _ h1, h2⟩
    | false =>
      rw [hb] at h
      rcases List.mem_cons.mp h with h | h
      · rw [h]; exact ⟨List.mem_cons_self, hb⟩
      · obtain ⟨h1, h2⟩ := rz_cut1_mem h
        exact ⟨List.mem_cons_of_mem _ h1, h2⟩
theorem rz_cut2_mem {i : Nat} : ∀ {l : rz_L} {q : Nat × Value}, q ∈ rz_cut2 i l → q ∈ l ∧ (Nat.beq q.1 i || (Nat.beq q.1 (i + 1) || (Nat.beq (q.1 + 1) i && rz_two q.2))) = false
  | [], q, h => by cases h
  | (k, u) :: r, q, h => by
    unfold rz_cut2 at h
    cases hb : (Nat.beq k i || (Nat.beq k (i + 1) || (Nat.beq (k + 1) i && rz_two u))) with
    | true =>
      rw [hb] at h
      obtain ⟨h1, h2⟩ := rz_cut2_mem h
      exact ⟨List.mem_cons_of_mem _ h1, h2⟩
    | false =>
      rw [hb] at h
      rcases List.mem_cons.mp h with h | h
      · rw [h]; exact ⟨List.mem_cons_self, hb⟩
      · obtain ⟨h1, h2⟩ := rz_cut2_mem h
        exact ⟨List.mem_cons_of_mem _ h1, h2⟩
theorem rz_nb (a b : Nat) : (a == b) = Nat.beq a b := by
  cases h : Nat.beq a b with
  | true => rw [rz_beq h]; exact beq_self_eq_true b
  | false => exact beq_false_of_ne (rz_nbeq h)
theorem rz_lv_sub {ls : Array Slot} {nL : Nat} {l l' : rz_L} (h : lv_has ls nL l) (hs : ∀ q ∈ l', q ∈ l) : lv_has ls nL l' := ⟨h.1, h.2.1, fun q hq => h.2.2 q (hs q hq)⟩
theorem rz_lv_st1 {ls : Array Slot} {nL i : Nat} {lv : rz_L} {v : Value} {adr : Nat → Nat} (h : lv_has ls nL ((i, rz_v adr v) :: (rz_l adr lv).filter (fun q => !(q.1 == i) && !(q.1 + 1 == i && q.2.category == 2)))) : lv_has ls nL (rz_l adr (rz_st1 lv i v)) := by
  refine rz_lv_sub h (fun q hq => ?_)
  obtain ⟨z, hz, e⟩ := List.mem_map.mp hq
  rcases rz_ins_mem hz with hz | hz
  · rw [← e, hz]; exact List.mem_cons_self
  · obtain ⟨h1, h2⟩ := rz_cut1_mem hz
    refine List.mem_cons_of_mem _ (List.mem_filter.mpr ⟨?_, ?_⟩)
    · rw [← e]; exact List.mem_map.mpr ⟨z, h1, rfl⟩
    · rw [← e]
      show (!(z.1 == i) && !(z.1 + 1 == i && (rz_v adr z.2).category == 2)) = true
      rw [rz_two_cat, rz_nb, rz_nb]
      revert h2
      cases Nat.beq z.1 i <;> cases Nat.beq (z.1 + 1) i <;> cases rz_two z.2 <;> simp
theorem rz_lv_st2 {ls : Array Slot} {nL i : Nat} {lv : rz_L} {v : Value} {adr : Nat → Nat} (h : lv_has ls nL ((i, rz_v adr v) :: (rz_l adr lv).filter (fun q => !(q.1 == i) && (!(q.1 == i + 1) && !(q.1 + 1 == i && q.2.category == 2))))) : lv_has ls nL (rz_l adr (rz_st2 lv i v)) := by
  refine rz_lv_sub h (fun q hq => ?_)
  obtain ⟨z, hz, e⟩ := List.mem_map.mp hq
  rcases rz_ins_mem hz with hz | hz
  · rw [← e, hz]; exact List.mem_cons_self
  · obtain ⟨h1, h2⟩ := rz_cut2_mem hz
    refine List.mem_cons_of_mem _ (List.mem_filter.mpr ⟨?_, ?_⟩)
    · rw [← e]; exact List.mem_map.mpr ⟨z, h1, rfl⟩
    · rw [← e]
      show (!(z.1 == i) && (!(z.1 == i + 1) && !(z.1 + 1 == i && (rz_v adr z.2).category == 2))) = true
      rw [rz_two_cat, rz_nb, rz_nb, rz_nb]
      revert h2
      cases Nat.beq z.1 i <;> cases Nat.beq z.1 (i + 1) <;> cases Nat.beq (z.1 + 1) i <;> cases rz_two z.2 <;> simp
theorem rz_keep_mem {ks : List Nat} : ∀ {l : rz_L} {q : Nat × Value}, q ∈ rz_keep ks l → q ∈ l
  | [], q, h => by cases h
  | (k, u) :: r, q, h => by
    unfold rz_keep at h
    cases hb : rz_mem k ks with
    | true =>
      rw [hb] at h
      rcases List.mem_cons.mp h with h | h
      · rw [h]; exact List.mem_cons_self
      · exact List.mem_cons_of_mem _ (rz_keep_mem h)
    | false =>
      rw [hb] at h
      exact List.mem_cons_of_mem _ (rz_keep_mem h)
theorem rz_lv_keep {ls : Array Slot} {nL : Nat} {lv : rz_L} {adr : Nat → Nat} (ks : List Nat) (h : lv_has ls nL (rz_l adr lv)) : lv_has ls nL (rz_l adr (rz_keep ks lv)) := by
  refine rz_lv_sub h (fun q hq => ?_)
  obtain ⟨z, hz, e⟩ := List.mem_map.mp hq
  rw [← e]
  exact List.mem_map.mpr ⟨z, rz_keep_mem hz, rfl⟩
theorem rz_lv_at {ls : Array Slot} {nL i : Nat} {lv : rz_L} {v : Value} {adr : Nat → Nat} (h : lv_has ls nL (rz_l adr lv)) (hg : rz_get lv i = some v) : ls[i]? = some (.val (rz_v adr v)) :=
  h.2.2 (i, rz_v adr v) (List.mem_map.mpr ⟨(i, v), rz_get_mem hg, rfl⟩)
theorem rz_pop_spec : ∀ {n : Nat} {st acc av rest : List Value}, rz_pop n st acc = some (av, rest) → ∃ b, av = b ++ acc ∧ st = b.reverse ++ rest ∧ b.length = n
  | 0, st, acc, av, rest, h => by cases h; exact ⟨[], rfl, rfl, rfl⟩
  | n + 1, [], acc, av, rest, h => by cases h
  | n + 1, v :: st, acc, av, rest, h => by
    obtain ⟨b, h1, h2, h3⟩ := rz_pop_spec (n := n) (st := st) (acc := v :: acc) h
    refine ⟨b ++ [v], by rw [h1]; simp, by rw [h2]; simp, by simp [h3]⟩
theorem rz_app_eq : ∀ (a b : List Value), rz_app a b = a ++ b
  | [], _ => rfl
  | v :: a, b => by unfold rz_app; rw [rz_app_eq a b]; rfl
-- a new cell's name
def rz_ad (adr : Nat → Nat) (k q : Nat) : Nat → Nat := fun i => if i = k then q else adr i
theorem rz_ad_s (adr : Nat → Nat) (k q : Nat) : rz_ad adr k q k = q := by simp [rz_ad]
theorem rz_ad_n {adr : Nat → Nat} {k q i : Nat} (h : i ≠ k) : rz_ad adr k q i = adr i := by simp [rz_ad, h]
theorem rz_no1_v {adr : Nat → Nat} {k q : Nat} {v : Value} (h : rz_no1 k v = true) : rz_v (rz_ad adr k q) v = rz_v adr v := by
  cases v with
  | ref a =>
    have h1 : Nat.beq a k = false := by
      revert h; show (!Nat.beq a k) = true → _; cases Nat.beq a k <;> simp
    show Value.ref (rz_ad adr k q a) = .ref (adr a)
    rw [rz_ad_n (rz_nbeq h1)]
  | _ => rfl
theorem rz_noL_v {adr : Nat → Nat} {k q : Nat} : ∀ {l : List Value}, rz_noL k l = true → l.map (rz_v (rz_ad adr k q)) = l.map (rz_v adr)
  | [], _ => rfl
  | v :: r, h => by
    have h1 := (Bool.and_eq_true _ _).mp (show (rz_no1 k v && rz_noL k r) = true from h)
    show rz_v _ v :: r.map _ = rz_v _ v :: r.map _
    rw [rz_no1_v h1.1, rz_noL_v h1.2]
theorem rz_noV_v {adr : Nat → Nat} {k q : Nat} : ∀ {l : rz_L}, rz_noV k l = true → rz_l (rz_ad adr k q) l = rz_l adr l
  | [], _ => rfl
  | (i, v) :: r, h => by
    have h1 := (Bool.and_eq_true _ _).mp (show (rz_no1 k v && rz_noV k r) = true from h)
    show (i, rz_v _ v) :: rz_l _ r = (i, rz_v _ v) :: rz_l _ r
    rw [rz_no1_v h1.1, rz_noV_v h1.2]
def rz_ei (ci : Nat) (fs : List Value) (adr : Nat → Nat) : va_E := .inr (ci, fs.map (rz_v adr))
theorem rz_noW_c {cI cJ : ClassId} {adr : Nat → Nat} {k q : Nat} : ∀ {w : rz_W}, rz_noW k w = true → rz_c cI cJ (rz_ad adr k q) w = rz_c cI cJ adr w ∧ k ∉ w.map Prod.fst
  | [], _ => ⟨rfl, List.not_mem_nil⟩
  | (i, .inl (ci, fs)) :: r, h => by
    have h1 := (Bool.and_eq_true _ _).mp (show (!Nat.beq i k && (rz_noL k fs && rz_noW k r)) = true from h)
    have h2 := (Bool.and_eq_true _ _).mp h1.2
    have h3 : Nat.beq i k = false := by
      have := h1.1; revert this; cases Nat.beq i k <;> simp
    obtain ⟨e1, e2⟩ := rz_noW_c (cI := cI) (cJ := cJ) (adr := adr) (q := q) h2.2
    refine ⟨?_, fun z => ?_⟩
    · show (rz_ad adr k q i, rz_ei ci fs (rz_ad adr k q)) :: rz_c cI cJ (rz_ad adr k q) r = (adr i, rz_ei ci fs adr) :: rz_c cI cJ adr r
      rw [e1, rz_ad_n (rz_nbeq h3)]
      unfold rz_ei
      rw [rz_noL_v h2.1]
    · rcases List.mem_cons.mp (show k ∈ i :: r.map Prod.fst from z) with z | z
      · exact rz_nbeq h3 z.symm
      · exact e2 z
  | (i, .inr x) :: r, h => by
    have h1 := (Bool.and_eq_true _ _).mp (show (!Nat.beq i k && rz_noW k r) = true from h)
    have h3 : Nat.beq i k = false := by
      have := h1.1; revert this; cases Nat.beq i k <;> simp
    obtain ⟨e1, e2⟩ := rz_noW_c (cI := cI) (cJ := cJ) (adr := adr) (q := q) h1.2
    refine ⟨?_, fun z => ?_⟩
    · show (rz_ad adr k q i, rz_e cI cJ (rz_ad adr k q) (.inr x)) :: rz_c cI cJ (rz_ad adr k q) r = (adr i, rz_e cI cJ adr (.inr x)) :: rz_c cI cJ adr r
      rw [e1, rz_ad_n (rz_nbeq h3)]
      cases x <;> rfl
    · rcases List.mem_cons.mp (show k ∈ i :: r.map Prod.fst from z) with z | z
      · exact rz_nbeq h3 z.symm
      · exact e2 z
end
section
/-! One instruction of rz_stp is sound: the machine does it. -/
theorem rz_pi_s {st : List Value} {k : Int32 → List Value → Prop} (h : rz_pi st k) : ∃ x r, st = .int x :: r ∧ k x r := by
  match st, h with
  | .int x :: r, h => exact ⟨x, r, rfl, h⟩
theorem rz_pl_s {st : List Value} {k : Int64 → List Value → Prop} (h : rz_pl st k) : ∃ x r, st = .long x :: r ∧ k x r := by
  match st, h with
  | .long x :: r, h => exact ⟨x, r, rfl, h⟩
theorem rz_pr_s {st : List Value} {k : Nat → List Value → Prop} (h : rz_pr st k) : ∃ x r, st = .ref x :: r ∧ k x r := by
  match st, h with
  | .ref x :: r, h => exact ⟨x, r, rfl, h⟩
theorem rz_op_s {α : Type} {o : Option α} {k : α → Prop} (h : rz_op o k) : ∃ x, o = some x ∧ k x := by
  match o, h with
  | some x, h => exact ⟨x, rfl, h⟩
theorem rz_if_s {b : Bool} {k : Prop} (h : rz_if b k) : b = true ∧ k := by
  match b, h with
  | true, h => exact ⟨rfl, h⟩
theorem rz_gi_s {lv : rz_L} {i : Nat} {k : Int32 → Prop} (h : rz_gi lv i k) : ∃ x, rz_get lv i = some (.int x) ∧ k x := by
  unfold rz_gi at h
  split at h
  · rename_i x e; exact ⟨x, e, h⟩
  · exact h.elim
theorem rz_gl_s {lv : rz_L} {i : Nat} {k : Int64 → Prop} (h : rz_gl lv i k) : ∃ x, rz_get lv i = some (.long x) ∧ k x := by
  unfold rz_gl at h
  split at h
  · rename_i x e; exact ⟨x, e, h⟩
  · exact h.elim
theorem rz_gr_s {lv : rz_L} {i : Nat} {k : Nat → Prop} (h : rz_gr lv i k) : ∃ x, rz_get lv i = some (.ref x) ∧ k x := by
  unfold rz_gr at h
  split at h
  · rename_i x e; exact ⟨x, e, h⟩
  · exact h.elim
theorem rz_ob_s {w : rz_W} {a ci : Nat} {k : List Value → Prop} (h : rz_ob w a ci k) : ∃ fs, rz_get w a = some (.inl (ci, fs)) ∧ k fs := by
  unfold rz_ob at h
  split at h
  · rename_i cj fs e
    cases hb : Nat.beq cj ci with
    | true => rw [hb] at h; rw [rz_beq hb] at e; exact ⟨fs, e, h⟩
    | false => rw [hb] at h; exact h.elim
  · exact h.elim
theorem rz_ai_s {w : rz_W} {a : Nat} {k : Nat → (Nat → Int32) → Prop} (h : rz_ai w a k) : ∃ n f, rz_get w a = some (.inr (.inl (n, f))) ∧ k n f := by
  unfold rz_ai at h
  split at h
  · rename_i n f e; exact ⟨n, f, e, h⟩
  · exact h.elim
theorem rz_al_s {w : rz_W} {a : Nat} {k : Nat → (Nat → Int64) → Prop} (h : rz_al w a k) : ∃ n f, rz_get w a = some (.inr (.inr (n, f))) ∧ k n f := by
  unfold rz_al at h
  split at h
  · rename_i n f e; exact ⟨n, f, e, h⟩
  · exact h.elim
theorem rz_l_pos {adr : Nat → Nat} : ∀ {lv : rz_L} {i : Nat} {v : Value}, rz_get lv i = some v → (rz_l adr lv)[rz_pos lv i]? = some (i, rz_v adr v)
  | [], _, _, h => by cases h
  | (k, u) :: r, i, v, h => by
    unfold rz_get at h
    unfold rz_pos
    cases hb : Nat.beq k i with
    | true => rw [hb] at h; cases h; rw [rz_beq hb]; rfl
    | false => rw [hb] at h; exact rz_l_pos (adr := adr) (lv := r) h
theorem rz_sw_s {x : Int32} {K : Nat → Prop} {d : Nat} : ∀ {l : List (Int32 × Nat)}, rz_sw x K d l → (∃ (j : Nat) (t : Nat), l[j]? = some (x, t) ∧ K t) ∨ ((∀ q ∈ l, ¬ x = q.1) ∧ K d)
  | [], h => Or.inr ⟨fun q hq => absurd hq List.not_mem_nil, h⟩
  | (v, t) :: r, h => by
    by_cases e : x = v
    · exact Or.inl ⟨0, t, by rw [e]; rfl, h.1 e⟩
    · rcases rz_sw_s (h.2 e) with ⟨j, t', h1, h2⟩ | ⟨h1, h2⟩
      · exact Or.inl ⟨j + 1, t', h1, h2⟩
      · refine Or.inr ⟨fun q hq => ?_, h2⟩
        rcases List.mem_cons.mp hq with z | z
        · rw [z]; exact e
        · exact h1 q z
def rz_kind (rk : Nat) (o : Option Value) : Prop := match rk with
  | 0 => ∃ r : Int32, o = some (.int r)
  | 1 => ∃ r : Int64, o = some (.long r)
  | _ => o = none
def rz_Qc (ce : rz_K) (D : va_G) (cI cJ : ClassId) (adr : Nat → Nat) (av : List Value) (w : rz_W) (A : Nat → Prop) : Array Value → State → Outcome → State → Prop := fun _ st oc t =>
  (∃ (o : Option Value) (w' : rz_W), oc = .returned o ∧ rz_kind ce.2.2.1 o ∧ w'.map Prod.fst = ce.2.1 ∧ (ce.2.2.2.1 = true → w' = w) ∧ ce.2.2.2.2.2 av w o w' ∧ va_P D vwCl (rz_c cI cJ adr w') t.heap) ∧ va_F A st t
def rz_CallOK (l : Launch) (R : Room) (own : String) (cc : ByteArray) (ins : Instr) (ce : rz_K) : Prop :=
  ce.2.1.Nodup ∧ ∀ (p : Program) (e : Env) (s : State) (m : MethodId) (args : Array Value) (below : List Frame) (meth : Method) (c : Code) (H : Heap) (locs : List Loc) (cs sl pc : Nat) (ls : Array Slot) (nL : Nat) (D : va_G) (cI cJ : ClassId) (adr : Nat → Nat) (av rest : List Value) (w : rz_W),
    cs ≤ R.cells → sl ≤ R.slots → p.tables.exec = Jvm.exec → c.code = cc → c.maxLocals = nL → s.vm.findClass own = some m.cls → (∀ w ∈ bw, w.before args s = true) → rz_NW s → va_K D vwCl [(cI, .int), (cJ, .long)] s →
    decode cc pc = .ok (ins, 3) → ls.size = nL → av.length = ce.1 → (rest.map fun v => v.category).sum ≤ 8 → va_P D vwCl (rz_c cI cJ adr w) H → va_D (fun _ => True) (rz_c cI cJ adr w) → w.map Prod.fst = ce.2.1 → ce.2.2.2.2.1 av w →
    ∃ a, va_Run p l e R s m args below meth c H locs cs sl 0 0 (F0 m pc ls ((av.map (rz_v adr)).reverse ++ rest)) rest (rz_Qc ce D cI cJ adr av w (va_A (rz_c cI cJ adr w) H.size) a) (va_A (rz_c cI cJ adr w) H.size)
def rz_FOK (own : String) (s : State) (args : Array Value) (ix : Nat) (q : Nat × Nat × Bool) : Prop := ∃ (C : String) (T : u_T) (N : Nat), vwCl[q.1]? = some (C, T, N) ∧ (∀ w ∈ u_ws C T N, w ∈ bw) ∧ q.2.1 < N ∧
  ((Cond.fieldLink own ix (T q.2.1).1 (T q.2.1).2.1 (T q.2.1).2.2.1).before args s = true ∨ (Cond.fieldLinkNest own ix (T q.2.1).1 (T q.2.1).2.1 (T q.2.1).2.2.1 "CoastWatch").before args s = true) ∧
  (∃ ty : Nat → FieldType, ∀ k, k < N → parseFieldDescriptor (T k).2.2.1 = some (ty k)) ∧ (∀ a, a < N → ∀ b, b < N → a ≠ b → (T a).2.1 ≠ (T b).2.1) ∧ (q.2.2 = true → (T q.2.1).2.2.2 = false ∧ parseFieldDescriptor (T q.2.1).2.2.1 = some .int)
def rz_len : Instr → Nat
  | .bipush _ => 2
  | .sipush _ => 3
  | .iload _ => 2
  | .lload _ => 2
  | .aload _ => 2
  | .istore _ => 2
  | .lstore _ => 2
  | .astore _ => 2
  | .iinc _ _ => 3
  | .ifCond _ _ => 3
  | .if_icmp _ _ => 3
  | .goto _ => 3
  | .getfield _ => 3
  | .putfield _ => 3
  | .newarray _ => 2
  | .invokestatic _ => 3
  | .invokevirtual _ => 3
  | _ => 1
def rz_aux (nL : Nat) (ret : Option FieldType) (bz : Bool) (i : Instr) (pc tg na : Nat) (ci : Int32) (cl : Int64) : Bool := match i with
  | .iconst n => decide (Int32.ofInt n = ci)
  | .bipush n => decide ((Int8.ofInt n).toInt32 = ci)
  | .sipush n => decide ((Int16.ofInt n).toInt32 = ci)
  | .lconst n => decide (Int64.ofNat (n : Nat) = cl)
  | .iload k => decide (k = tg)
  | .iload_n k => decide ((k : Nat) = tg)
  | .lload k => decide (k = tg)
  | .lload_n k => decide ((k : Nat) = tg)
  | .aload k => decide (k = tg)
  | .aload_n k => decide ((k : Nat) = tg)
  | .istore k => decide (k = tg ∧ tg < nL)
  | .istore_n k => decide ((k : Nat) = tg ∧ tg < nL)
  | .lstore k => decide (k = tg ∧ tg + 1 < nL)
  | .lstore_n k => decide ((k : Nat) = tg ∧ tg + 1 < nL)
  | .astore k => decide (k = tg ∧ tg < nL)
  | .astore_n k => decide ((k : Nat) = tg ∧ tg < nL)
  | .iinc k n => decide (k = tg ∧ tg < nL ∧ Int32.ofInt n = ci)
  | .ifCond _ off => decide ((pc : Int) + off = (tg : Int))
  | .if_icmp _ off => decide ((pc : Int) + off = (tg : Int))
  | .goto off => decide ((pc : Int) + off = (tg : Int))
  | .newarray a => decide (a = .int ∧ ¬ ci < 0 ∧ ci.toNatClampNeg = na ∧ na ≤ 10000)
  | .ireturn => decide (ret = some (if bz then .boolean else .int))
  | .lreturn => decide (ret = some .long)
  | .return_ => decide (ret = none)
  | _ => true
/-- the row of a table is the code's own -/
def rz_row (cc : ByteArray) (nL : Nat) (ret : Option FieldType) (bz : Bool) (sw : List (Int32 × Nat)) (pc : Nat) (q : rz_I) : Prop := match q.1 with
  | .tableswitch d lo hi offs => (∃ len, decode cc pc = .ok (.tableswitch d lo hi offs, len)) ∧ (pc : Int) + d = (q.2.2.1 : Int) ∧ lo + sw.length = hi + 1 ∧ (List.range sw.length).all (fun j => match sw[j]?, offs[j]? with
    | some (v, t), some off => decide (v.toInt = lo + j ∧ (pc : Int) + off = (t : Int))
    | _, _ => false) = true
  | i => decode cc pc = .ok (i, rz_len i) ∧ q.2.1 = pc + rz_len i ∧ rz_aux nL ret bz i pc q.2.2.1 q.2.2.2.1 q.2.2.2.2.1 q.2.2.2.2.2 = true
theorem rz_arrI : Cond.arrayClass .int ∈ bw := bw_t 67 (by decide +kernel) rfl
section RZS
variable {p : Program} {l : Launch} {e : Env} {R : Room} {s : State} {m : MethodId} {args : Array Value} {below : List Frame} {meth : Method} {c : Code} {QQ : State → Prop}
theorem rz_callW {H H0 : Heap} {locs : List Loc} {cells slots mc ms pc : Nat} {ls : Array Slot} {rest st0 av : List Value} {a : Array Value} {A0 A1 : Nat → Prop} {free : Addr → Prop} {ce : rz_K} {D : va_G} {cI cJ : ClassId} {adr : Nat → Nat} {wc : rz_W}
    (hr : va_Run p l e R s m args below meth c H locs cells slots mc ms (F0 m pc ls st0) rest (rz_Qc ce D cI cJ adr av wc A1 a) free) (hS : va_S A0 H0 H locs) (hA : ∀ q, q < H.size → A1 q → A0 q) (hf : ∀ q, free q → A0 q)
    (kk : ∀ (o : Option Value) (w' : rz_W) (H1 : Heap) (locs1 : List Loc), rz_kind ce.2.2.1 o → w'.map Prod.fst = ce.2.1 → (ce.2.2.2.1 = true → w' = wc) → ce.2.2.2.2.2 av wc o w' → va_P D vwCl (rz_c cI cJ adr w') H1 → H.size ≤ H1.size → (∀ q : Nat, q < H.size → ¬ A1 q → H1[q]? = H[q]?) → va_S A0 H0 H1 locs1 →
      W p l e R s m args below meth c H1 locs1 (cells + mc) (slots + ms) QQ (F0 m (pc + 3) ls (o.toList ++ rest))) : W p l e R s m args below meth c H locs cells slots QQ (F0 m pc ls st0) := by
  intro T hT X
  obtain ⟨v, st₀, t, T', L, h0, X', hL, e1, e2, ⟨⟨o, w', hv, hk1, hk2, hk3, hk4, hk5⟩, hz, hk⟩, st⟩ := hr T hT X
  cases hv
  rw [h0] at hz hk
  obtain ⟨t2, a1, b1⟩ := kk v w' T'.heap (locs ++ L) hk1 hk2 hk3 hk4 (by rw [e1]; exact hk5) (by rw [e1]; exact hz) (fun q h1 h2 => by rw [e1]; exact hk q h1 h2)
    ⟨Nat.le_trans hS.1 (by rw [e1]; exact hz), fun q h1 h2 => by rw [e1, hk q (Nat.lt_of_lt_of_le h1 hS.1) (fun z => h2 (hA q (Nat.lt_of_lt_of_le h1 hS.1) z))]; exact hS.2.1 q h1 h2, fun q hq => by
      rcases List.mem_append.mp hq with h | h
      · exact hS.2.2 q h
      · exact hf _ (hL q h)⟩ T' rfl X'
  exact ⟨t2, st t2 a1, b1⟩
def rz_Rel (D : va_G) (cI cJ : ClassId) (A : Nat → Prop) (s : State) (nL : Nat) (ks : List Nat) (RC RS : Nat) (adr0 adr : Nat → Nat) (lv : rz_L) (w : rz_W) (cs sl : Nat) (H : Heap) (locs : List Loc) (ls : Array Slot) : Prop :=
  va_P D vwCl (rz_c cI cJ adr w) H ∧ rz_D adr A (w.map Prod.fst) ∧ va_S A s.heap H locs ∧ lv_has ls nL (rz_l adr lv) ∧ (∀ k ∈ ks, adr k = adr0 k) ∧ (∃ ex : List Nat, w.map Prod.fst = ks ++ ex ∧ ex.length ≤ cs ∧ ∀ k, k ∉ ex → adr k = adr0 k) ∧ cs ≤ RC ∧ sl ≤ RS
def rz_G (p : Program) (l : Launch) (e : Env) (R : Room) (s : State) (m : MethodId) (args : Array Value) (below : List Frame) (meth : Method) (c : Code) (QQ : State → Prop) (D : va_G) (cI cJ : ClassId) (A : Nat → Prop) (nL : Nat) (ks : List Nat) (RC RS : Nat) (adr0 : Nat → Nat) (pc : Nat) (lv : rz_L) (st : List Value) (w : rz_W) (cs sl : Nat) : Prop :=
  ∀ (adr : Nat → Nat) (H : Heap) (locs : List Loc) (ls : Array Slot), rz_Rel D cI cJ A s nL ks RC RS adr0 adr lv w cs sl H locs ls → W p l e R s m args below meth c H locs cs sl QQ (F0 m pc ls (st.map (rz_v adr)))
set_option maxHeartbeats 8000000 in
set_option maxRecDepth 100000 in
theorem rz_step {D : va_G} {cI cJ : ClassId} {A : Nat → Prop} {nL : Nat} {ks : List Nat} {RC RS : Nat} {adr0 : Nat → Nat} {own : String} {cc : ByteArray} {ret : Option FieldType} {bz : Bool} {fld : List (Nat × Nat × Nat × Bool)} {cal cav : List (Nat × rz_K)} {sw : List (Int32 × Nat)} {Q : Option Value → rz_W → Prop} {Qc : Array Value → State → Outcome → State → Prop} {free : Addr → Prop}
    (hx : p.tables.exec = Jvm.exec) (hb : c.code = cc) (hlocks : meth.locks = false) (hml : c.maxLocals = nL) (hown : s.vm.findClass own = some m.cls) (hts : ∀ w ∈ bw, w.before args s = true) (hnw : rz_NW s) (hK : va_K D vwCl [(cI, .int), (cJ, .long)] s) (hA : ∀ q, s.heap.size ≤ q → A q) (hR : RC ≤ R.cells ∧ RS ≤ R.slots) (hr : meth.sig.returnType = ret)
    (hfld : ∀ ix q, rz_get fld ix = some q → rz_FOK own s args ix q) (hcal : ∀ ix ce, rz_get cal ix = some ce → rz_CallOK l R own cc (.invokestatic ix) ce) (hcav : ∀ ix ce, rz_get cav ix = some ce → rz_CallOK l R own cc (.invokevirtual ix) ce)
    (hfin : ∀ (adr : Nat → Nat) (lv : rz_L) (w : rz_W) (cs sl : Nat) (H : Heap) (locs : List Loc) (ls : Array Slot) (o : Option Value), rz_Rel D cI cJ A s nL ks RC RS adr0 adr lv w cs sl H locs ls → Q o w → (∀ q ∈ locs, free q.base) ∧ ∀ t : State, t.heap = H → s.WarmedH t.vm → Qc args s (.returned o) t)
    {pc nx tg na : Nat} {ci : Int32} {cl : Int64} {i : Instr} (hrow : rz_row cc nL ret bz sw pc (i, nx, tg, na, ci, cl))
    {Kp : Nat → rz_L → List Value → rz_W → Nat → Nat → Prop} (hKp : ∀ pc lv st w cs sl, Kp pc lv st w cs sl → rz_G p l e R s m args below meth c (MQ below Qc args s RC RS free) D cI cJ A nL ks RC RS adr0 pc lv st w cs sl)
    {lv : rz_L} {st : List Value} {w : rz_W} {cs sl : Nat} (h : rz_stp fld cal cav sw bz RC RS Q Kp i nx tg na ci cl lv st w cs sl) : rz_G p l e R s m args below meth c (MQ below Qc args s RC RS free) D cI cJ A nL ks RC RS adr0 pc lv st w cs sl := by
  intro adr H locs ls hr0
  obtain ⟨hP, hD, hS, hl, hk, hex, hc1, hc2⟩ := id hr0
  have ax : ∀ {b : Bool} {P : Prop} [Decidable P], b = true → b = decide P → P := fun h1 h2 => of_decide_eq_true (h2.symm.trans h1)
  have callk : ∀ {ins : Instr} {ce : rz_K}, rz_CallOK l R own cc ins ce → decode cc pc = .ok (ins, 3) → rz_call ce st w (fun st' w' => Kp (pc + 3) lv st' w' cs sl) → W p l e R s m args below meth c H locs cs sl (MQ below Qc args s RC RS free) (F0 m pc ls (st.map (rz_v adr))) := by
    intro ins ce hok hd h
    obtain ⟨⟨av, rest⟩, hpop, h⟩ := rz_op_s h
    obtain ⟨wc, hsub, h⟩ := rz_op_s h
    obtain ⟨hwd, hpre, h⟩ := rz_if_s h
    obtain ⟨b, b1, b2, b3⟩ := rz_pop_spec hpop
    rw [List.append_nil] at b1
    subst b1
    obtain ⟨hkeys, hin⟩ := rz_sub_keys hsub
    have hwd2 : ((rest.map (rz_v adr)).map fun v => v.category).sum ≤ 8 := by rw [rz_words_sum]; exact Nat.le_of_ble_eq_true hwd
    have hPc : va_P D vwCl (rz_c cI cJ adr wc) H := rz_P_iff.mpr (fun q hq => rz_P_iff.mp hP q (hin q hq))
    have hkin : ∀ k ∈ wc.map Prod.fst, k ∈ w.map Prod.fst := by
      intro k hk9
      obtain ⟨q, hq, e9⟩ := List.mem_map.mp hk9
      exact List.mem_map.mpr ⟨q, hin q hq, e9⟩
    have hDc : rz_D adr A (wc.map Prod.fst) := ⟨by rw [hkeys]; exact hok.1, fun i hi j hj e9 => hD.2.1 i (hkin i hi) j (hkin j hj) e9, fun i hi => hD.2.2 i (hkin i hi)⟩
    have hDt : va_D (fun _ => True) (rz_c cI cJ adr wc) := hDc.va.weaken (fun _ _ _ _ => trivial)
    obtain ⟨a, hrun⟩ := hok.2 p e s m args below meth c H locs cs sl pc ls nL D cI cJ adr av (rest.map (rz_v adr)) wc (Nat.le_trans hc1 hR.1) (Nat.le_trans hc2 hR.2) hx hb hml hown hts hnw hK hd hl.1 b3 hwd2 hPc hDt hkeys hpre
    have hst : st.map (rz_v adr) = (av.map (rz_v adr)).reverse ++ rest.map (rz_v adr) := by rw [b2, List.map_append, List.map_reverse]
    rw [hst]
    have hAin : ∀ q, va_A (rz_c cI cJ adr wc) H.size q → A q := by
      intro q hq
      rcases hq with ⟨k, e9, hk9⟩ | hq
      · exact hDc.va.2 k _ hk9
      · exact hA q (Nat.le_trans hS.1 hq)
    refine rz_callW hrun hS (fun q _ hq => hAin q hq) hAin (fun o w' H1 locs1 j1 j2 j3 j4 j5 j6 j7 j8 => ?_)
    have hback : va_P D vwCl (rz_c cI cJ adr (rz_back w w')) H1 := by
      refine rz_P_iff.mpr (fun q hq => ?_)
      rcases rz_back_mem hD.1 hq with z | ⟨z1, z2⟩
      · exact rz_P_iff.mp j5 q z
      · have hat := rz_P_iff.mp hP q z1
        refine hat.kept (j7 _ hat.lt (fun z3 => ?_))
        rcases z3 with ⟨k, e9, hk9⟩ | z3
        · obtain ⟨y, hy, e8⟩ := List.mem_map.mp (List.mem_of_getElem? hk9)
          have e7 : adr y.1 = adr q.1 := congrArg Prod.fst e8
          have e6 := hD.2.1 y.1 (List.mem_map.mpr ⟨y, hin y hy, rfl⟩) q.1 (List.mem_map.mpr ⟨q, z1, rfl⟩) e7
          refine z2 ?_
          rw [j2, ← hkeys, ← e6]
          exact List.mem_map.mpr ⟨y, hy, rfl⟩
        · exact absurd hat.lt (Nat.not_lt.mpr z3)
    have hrel : ∀ w2 : rz_W, va_P D vwCl (rz_c cI cJ adr w2) H1 → w2.map Prod.fst = w.map Prod.fst → rz_Rel D cI cJ A s nL ks RC RS adr0 adr lv w2 cs sl H1 locs1 ls := fun w2 g1 g2 => ⟨g1, by rw [g2]; exact hD, j8, hl, hk, by rw [g2]; exact hex, hc1, hc2⟩
    have hkp : ∀ vs : List Value, o.toList = vs → vs.map (rz_v adr) = vs → rz_kept ce.2.2.2.1 (ce.2.2.2.2.2 av wc o) wc w (fun w2 => Kp (pc + 3) lv (rz_app vs rest) w2 cs sl) → W p l e R s m args below meth c H1 locs1 cs sl (MQ below Qc args s RC RS free) (F0 m (pc + 3) ls (o.toList ++ rest.map (rz_v adr))) := by
      intro vs hvs hvm hkept
      have e5 : o.toList ++ rest.map (rz_v adr) = (rz_app vs rest).map (rz_v adr) := by rw [rz_app_eq, List.map_append, hvm, hvs]
      rw [e5]
      unfold rz_kept at hkept
      cases hb2 : ce.2.2.2.1 with
      | true =>
        rw [hb2] at hkept
        have e4 := j3 hb2
        subst e4
        have hsame : va_P D vwCl (rz_c cI cJ adr w) H1 := by
          refine rz_P_iff.mpr (fun q hq => ?_)
          by_cases z : q.1 ∈ w'.map Prod.fst
          · obtain ⟨y, hy, e8⟩ := List.mem_map.mp z
            have e3 : y = q := by
              have hy2 := hin y hy
              obtain ⟨i1, hi1⟩ := List.getElem?_of_mem hy2
              obtain ⟨i2, hi2⟩ := List.getElem?_of_mem hq
              have : i1 = i2 := rz_nodup_inj hD.1 (a := q.1) (by rw [List.getElem?_map, hi1]; exact congrArg some e8) (by rw [List.getElem?_map, hi2]; rfl)
              subst this
              rw [hi1] at hi2
              exact Option.some.inj hi2
            rw [← e3]
            exact rz_P_iff.mp j5 y hy
          · have hat := rz_P_iff.mp hP q hq
            refine hat.kept (j7 _ hat.lt (fun z3 => ?_))
            rcases z3 with ⟨k, e9, hk9⟩ | z3
            · obtain ⟨y, hy, e8⟩ := List.mem_map.mp (List.mem_of_getElem? hk9)
              have e7 : adr y.1 = adr q.1 := congrArg Prod.fst e8
              have e6 := hD.2.1 y.1 (List.mem_map.mpr ⟨y, hin y hy, rfl⟩) q.1 (List.mem_map.mpr ⟨q, hq, rfl⟩) e7
              exact z (by rw [← e6]; exact List.mem_map.mpr ⟨y, hy, rfl⟩)
            · exact absurd hat.lt (Nat.not_lt.mpr z3)
        exact hKp _ _ _ _ _ _ (hkept j4) adr H1 locs1 ls (hrel w hsame rfl)
      | false =>
        rw [hb2] at hkept
        exact hKp _ _ _ _ _ _ (hkept w' j4) adr H1 locs1 ls (hrel _ hback (rz_back_keys w' w))
    unfold rz_kind at j1
    unfold rz_ret at h
    split at j1
    · rename_i hrk
      obtain ⟨rv, rfl⟩ := j1
      rw [hrk] at h
      exact hkp [.int rv] rfl rfl (h rv)
    · rename_i hrk
      obtain ⟨rv, rfl⟩ := j1
      rw [hrk] at h
      exact hkp [.long rv] rfl rfl (h rv)
    · rename_i hrk1 hrk2
      subst j1
      refine hkp [] rfl rfl ?_
      revert h
      split
      · rename_i z; exact absurd z (by intro z; exact hrk1 z)
      · rename_i z; exact absurd z (by intro z; exact hrk2 z)
      · exact id
  cases i with
  | iconst n =>
    obtain ⟨hd, hn, ha⟩ := hrow
    have hn : nx = pc + 1 := hn
    subst hn
    exact lv_iconst hx hb hd (ax ha rfl) (hKp _ _ _ _ _ _ h adr H locs ls hr0)
  | bipush n =>
    obtain ⟨hd, hn, ha⟩ := hrow
    have hn : nx = pc + 2 := hn
    subst hn
    exact lv_bipush hx hb hd (ax ha rfl) (hKp _ _ _ _ _ _ h adr H locs ls hr0)
  | sipush n =>
    obtain ⟨hd, hn, ha⟩ := hrow
    have hn : nx = pc + 3 := hn
    subst hn
    exact lv_sipush hx hb hd (ax ha rfl) (hKp _ _ _ _ _ _ h adr H locs ls hr0)
  | lconst n =>
    obtain ⟨hd, hn, ha⟩ := hrow
    have hn : nx = pc + 1 := hn
    subst hn
    exact lv_lconst hx hb hd (ax ha rfl) (hKp _ _ _ _ _ _ h adr H locs ls hr0)
  | iload k =>
    obtain ⟨hd, hn, ha⟩ := hrow
    have hn : nx = pc + 2 := hn
    subst hn
    have ha : k = tg := ax ha rfl
    subst ha
    obtain ⟨x, hg, h⟩ := rz_gi_s h
    exact lv_iload hx hb hd (rz_lv_at hl hg) (hKp _ _ _ _ _ _ h adr H locs ls hr0)
  | iload_n k =>
    obtain ⟨hd, hn, ha⟩ := hrow
    have hn : nx = pc + 1 := hn
    subst hn
    have ha : (k : Nat) = tg := ax ha rfl
    obtain ⟨x, hg, h⟩ := rz_gi_s h
    exact lv_iload_n hx hb hd ha (rz_lv_at hl hg) (hKp _ _ _ _ _ _ h adr H locs ls hr0)
  | lload k =>
    obtain ⟨hd, hn, ha⟩ := hrow
    have hn : nx = pc + 2 := hn
    subst hn
    have ha : k = tg := ax ha rfl
    subst ha
    obtain ⟨x, hg, h⟩ := rz_gl_s h
    exact lv_lload hx hb hd (rz_lv_at hl hg) (hKp _ _ _ _ _ _ h adr H locs ls hr0)
  | lload_n k =>
    obtain ⟨hd, hn, ha⟩ := hrow
    have hn : nx = pc + 1 := hn
    subst hn
    have ha : (k : Nat) = tg := ax ha rfl
    obtain ⟨x, hg, h⟩ := rz_gl_s h
    exact lv_lload_n hx hb hd ha (rz_lv_at hl hg) (hKp _ _ _ _ _ _ h adr H locs ls hr0)
  | aload k =>
    obtain ⟨hd, hn, ha⟩ := hrow
    have hn : nx = pc + 2 := hn
    subst hn
    have ha : k = tg := ax ha rfl
    subst ha
    obtain ⟨x, hg, h⟩ := rz_gr_s h
    exact lv_aload hx hb hd (rz_lv_at hl hg) (hKp _ _ _ _ _ _ h adr H locs ls hr0)
  | aload_n k =>
    obtain ⟨hd, hn, ha⟩ := hrow
    have hn : nx = pc + 1 := hn
    subst hn
    have ha : (k : Nat) = tg := ax ha rfl
    obtain ⟨x, hg, h⟩ := rz_gr_s h
    exact lv_aload_n hx hb hd ha (rz_lv_at hl hg) (hKp _ _ _ _ _ _ h adr H locs ls hr0)
  | istore k =>
    obtain ⟨hd, hn, ha⟩ := hrow
    have hn : nx = pc + 2 := hn
    subst hn
    obtain ⟨ha, ha2⟩ : k = tg ∧ tg < nL := ax ha rfl
    subst ha
    obtain ⟨x, r, e1, h⟩ := rz_pi_s h
    subst e1
    exact lv_istore hx hb hd hl ha2 rfl (fun ls' hl' => hKp _ _ _ _ _ _ (h x rfl) adr H locs ls' ⟨hP, hD, hS, rz_lv_st1 (v := .int x) hl', hk, hex, hc1, hc2⟩)
  | istore_n k =>
    obtain ⟨hd, hn, ha⟩ := hrow
    have hn : nx = pc + 1 := hn
    subst hn
    obtain ⟨ha, ha2⟩ : (k : Nat) = tg ∧ tg < nL := ax ha rfl
    obtain ⟨x, r, e1, h⟩ := rz_pi_s h
    subst e1
    exact lv_istore_n hx hb hd ha hl ha2 rfl (fun ls' hl' => hKp _ _ _ _ _ _ (h x rfl) adr H locs ls' ⟨hP, hD, hS, rz_lv_st1 (v := .int x) hl', hk, hex, hc1, hc2⟩)
  | lstore k =>
    obtain ⟨hd, hn, ha⟩ := hrow
    have hn : nx = pc + 2 := hn
    subst hn
    obtain ⟨ha, ha2⟩ : k = tg ∧ tg + 1 < nL := ax ha rfl
    subst ha
    obtain ⟨x, r, e1, h⟩ := rz_pl_s h
    subst e1
    exact lv_lstore hx hb hd hl ha2 rfl (fun ls' hl' => hKp _ _ _ _ _ _ (h x rfl) adr H locs ls' ⟨hP, hD, hS, rz_lv_st2 (v := .long x) hl', hk, hex, hc1, hc2⟩)
  | lstore_n k =>
    obtain ⟨hd, hn, ha⟩ := hrow
    have hn : nx = pc + 1 := hn
    subst hn
    obtain ⟨ha, ha2⟩ : (k : Nat) = tg ∧ tg + 1 < nL := ax ha rfl
    obtain ⟨x, r, e1, h⟩ := rz_pl_s h
    subst e1
    exact lv_lstore_n hx hb hd ha hl ha2 rfl (fun ls' hl' => hKp _ _ _ _ _ _ (h x rfl) adr H locs ls' ⟨hP, hD, hS, rz_lv_st2 (v := .long x) hl', hk, hex, hc1, hc2⟩)
  | astore k =>
    obtain ⟨hd, hn, ha⟩ := hrow
    have hn : nx = pc + 2 := hn
    subst hn
    obtain ⟨ha, ha2⟩ : k = tg ∧ tg < nL := ax ha rfl
    subst ha
    obtain ⟨x, r, e1, h⟩ := rz_pr_s h
    subst e1
    exact lv_astore hx hb hd hl ha2 rfl (fun ls' hl' => hKp _ _ _ _ _ _ h adr H locs ls' ⟨hP, hD, hS, rz_lv_st1 (v := .ref x) hl', hk, hex, hc1, hc2⟩)
  | astore_n k =>
    obtain ⟨hd, hn, ha⟩ := hrow
    have hn : nx = pc + 1 := hn
    subst hn
    obtain ⟨ha, ha2⟩ : (k : Nat) = tg ∧ tg < nL := ax ha rfl
    obtain ⟨x, r, e1, h⟩ := rz_pr_s h
    subst e1
    exact lv_astore_n hx hb hd ha hl ha2 rfl (fun ls' hl' => hKp _ _ _ _ _ _ h adr H locs ls' ⟨hP, hD, hS, rz_lv_st1 (v := .ref x) hl', hk, hex, hc1, hc2⟩)
  | iinc k n =>
    obtain ⟨hd, hn, ha⟩ := hrow
    have hn : nx = pc + 3 := hn
    subst hn
    obtain ⟨ha, ha2, ha3⟩ : k = tg ∧ tg < nL ∧ Int32.ofInt n = ci := ax ha rfl
    subst ha
    obtain ⟨x, hg, h⟩ := rz_gi_s h
    exact lv_iinc hx hb hd hl (k := rz_pos lv k) (rz_l_pos hg) (by rw [ha3]) ha2 rfl (fun ls' hl' => hKp _ _ _ _ _ _ (h (x + ci) rfl) adr H locs ls' ⟨hP, hD, hS, rz_lv_st1 (v := .int (x + ci)) hl', hk, hex, hc1, hc2⟩)
  | iadd =>
    obtain ⟨hd, hn, ha⟩ := hrow
    have hn : nx = pc + 1 := hn
    subst hn
    obtain ⟨y, r, e1, h⟩ := rz_pi_s h
    subst e1
    obtain ⟨x, r, e1, h⟩ := rz_pi_s h
    subst e1
    exact lv_iadd hx hb hd (hKp _ _ _ _ _ _ h adr H locs ls hr0)
  | isub =>
    obtain ⟨hd, hn, ha⟩ := hrow
    have hn : nx = pc + 1 := hn
    subst hn
    obtain ⟨y, r, e1, h⟩ := rz_pi_s h
    subst e1
    obtain ⟨x, r, e1, h⟩ := rz_pi_s h
    subst e1
    exact lv_isub hx hb hd (hKp _ _ _ _ _ _ h adr H locs ls hr0)
  | imul =>
    obtain ⟨hd, hn, ha⟩ := hrow
    have hn : nx = pc + 1 := hn
    subst hn
    obtain ⟨y, r, e1, h⟩ := rz_pi_s h
    subst e1
    obtain ⟨x, r, e1, h⟩ := rz_pi_s h
    subst e1
    exact lv_imul hx hb hd (hKp _ _ _ _ _ _ h adr H locs ls hr0)
  | iand =>
    obtain ⟨hd, hn, ha⟩ := hrow
    have hn : nx = pc + 1 := hn
    subst hn
    obtain ⟨y, r, e1, h⟩ := rz_pi_s h
    subst e1
    obtain ⟨x, r, e1, h⟩ := rz_pi_s h
    subst e1
    exact lv_iand hx hb hd (hKp _ _ _ _ _ _ h adr H locs ls hr0)
  | ior =>
    obtain ⟨hd, hn, ha⟩ := hrow
    have hn : nx = pc + 1 := hn
    subst hn
    obtain ⟨y, r, e1, h⟩ := rz_pi_s h
    subst e1
    obtain ⟨x, r, e1, h⟩ := rz_pi_s h
    subst e1
    exact lv_ior hx hb hd (hKp _ _ _ _ _ _ h adr H locs ls hr0)
  | ixor =>
    obtain ⟨hd, hn, ha⟩ := hrow
    have hn : nx = pc + 1 := hn
    subst hn
    obtain ⟨y, r, e1, h⟩ := rz_pi_s h
    subst e1
    obtain ⟨x, r, e1, h⟩ := rz_pi_s h
    subst e1
    exact lv_ixor hx hb hd (hKp _ _ _ _ _ _ h adr H locs ls hr0)
  | ishl =>
    obtain ⟨hd, hn, ha⟩ := hrow
    have hn : nx = pc + 1 := hn
    subst hn
    obtain ⟨y, r, e1, h⟩ := rz_pi_s h
    subst e1
    obtain ⟨x, r, e1, h⟩ := rz_pi_s h
    subst e1
    exact lv_ishl hx hb hd (hKp _ _ _ _ _ _ h adr H locs ls hr0)
  | ishr =>
    obtain ⟨hd, hn, ha⟩ := hrow
    have hn : nx = pc + 1 := hn
    subst hn
    obtain ⟨y, r, e1, h⟩ := rz_pi_s h
    subst e1
    obtain ⟨x, r, e1, h⟩ := rz_pi_s h
    subst e1
    exact lv_ishr hx hb hd (hKp _ _ _ _ _ _ h adr H locs ls hr0)
  | iushr =>
    obtain ⟨hd, hn, ha⟩ := hrow
    have hn : nx = pc + 1 := hn
    subst hn
    obtain ⟨y, r, e1, h⟩ := rz_pi_s h
    subst e1
    obtain ⟨x, r, e1, h⟩ := rz_pi_s h
    subst e1
    exact lv_iushr hx hb hd rfl (hKp _ _ _ _ _ _ h adr H locs ls hr0)
  | irem =>
    obtain ⟨hd, hn, ha⟩ := hrow
    have hn : nx = pc + 1 := hn
    subst hn
    obtain ⟨y, r, e1, h⟩ := rz_pi_s h
    subst e1
    obtain ⟨x, r, e1, h⟩ := rz_pi_s h
    subst e1
    exact lv_irem hx hb hd h.1 (hKp _ _ _ _ _ _ h.2 adr H locs ls hr0)
  | ladd =>
    obtain ⟨hd, hn, ha⟩ := hrow
    have hn : nx = pc + 1 := hn
    subst hn
    obtain ⟨y, r, e1, h⟩ := rz_pl_s h
    subst e1
    obtain ⟨x, r, e1, h⟩ := rz_pl_s h
    subst e1
    exact lv_ladd hx hb hd (hKp _ _ _ _ _ _ h adr H locs ls hr0)
  | lsub =>
    obtain ⟨hd, hn, ha⟩ := hrow
    have hn : nx = pc + 1 := hn
    subst hn
    obtain ⟨y, r, e1, h⟩ := rz_pl_s h
    subst e1
    obtain ⟨x, r, e1, h⟩ := rz_pl_s h
    subst e1
    exact lv_lsub hx hb hd (hKp _ _ _ _ _ _ h adr H locs ls hr0)
  | lmul =>
    obtain ⟨hd, hn, ha⟩ := hrow
    have hn : nx = pc + 1 := hn
    subst hn
    obtain ⟨y, r, e1, h⟩ := rz_pl_s h
    subst e1
    obtain ⟨x, r, e1, h⟩ := rz_pl_s h
    subst e1
    exact lv_lmul hx hb hd (hKp _ _ _ _ _ _ h adr H locs ls hr0)
  | lxor =>
    obtain ⟨hd, hn, ha⟩ := hrow
    have hn : nx = pc + 1 := hn
    subst hn
    obtain ⟨y, r, e1, h⟩ := rz_pl_s h
    subst e1
    obtain ⟨x, r, e1, h⟩ := rz_pl_s h
    subst e1
    exact lv_lxor hx hb hd (hKp _ _ _ _ _ _ h adr H locs ls hr0)
  | ldiv =>
    obtain ⟨hd, hn, ha⟩ := hrow
    have hn : nx = pc + 1 := hn
    subst hn
    obtain ⟨y, r, e1, h⟩ := rz_pl_s h
    subst e1
    obtain ⟨x, r, e1, h⟩ := rz_pl_s h
    subst e1
    exact lv_ldiv hx hb hd h.1 (hKp _ _ _ _ _ _ h.2 adr H locs ls hr0)
  | lrem =>
    obtain ⟨hd, hn, ha⟩ := hrow
    have hn : nx = pc + 1 := hn
    subst hn
    obtain ⟨y, r, e1, h⟩ := rz_pl_s h
    subst e1
    obtain ⟨x, r, e1, h⟩ := rz_pl_s h
    subst e1
    exact lv_lrem hx hb hd h.1 (hKp _ _ _ _ _ _ h.2 adr H locs ls hr0)
  | lcmp =>
    obtain ⟨hd, hn, ha⟩ := hrow
    have hn : nx = pc + 1 := hn
    subst hn
    obtain ⟨y, r, e1, h⟩ := rz_pl_s h
    subst e1
    obtain ⟨x, r, e1, h⟩ := rz_pl_s h
    subst e1
    exact W.lcmp hx hb hd (hKp _ _ _ _ _ _ h adr H locs ls hr0)
  | ineg =>
    obtain ⟨hd, hn, ha⟩ := hrow
    have hn : nx = pc + 1 := hn
    subst hn
    obtain ⟨x, r, e1, h⟩ := rz_pi_s h
    subst e1
    exact lv_ineg hx hb hd (hKp _ _ _ _ _ _ h adr H locs ls hr0)
  | lneg =>
    obtain ⟨hd, hn, ha⟩ := hrow
    have hn : nx = pc + 1 := hn
    subst hn
    obtain ⟨x, r, e1, h⟩ := rz_pl_s h
    subst e1
    exact lv_lneg hx hb hd (hKp _ _ _ _ _ _ h adr H locs ls hr0)
  | i2l =>
    obtain ⟨hd, hn, ha⟩ := hrow
    have hn : nx = pc + 1 := hn
    subst hn
    obtain ⟨x, r, e1, h⟩ := rz_pi_s h
    subst e1
    exact lv_i2l hx hb hd rfl (hKp _ _ _ _ _ _ h adr H locs ls hr0)
  | l2i =>
    obtain ⟨hd, hn, ha⟩ := hrow
    have hn : nx = pc + 1 := hn
    subst hn
    obtain ⟨x, r, e1, h⟩ := rz_pl_s h
    subst e1
    exact lv_l2i hx hb hd rfl (hKp _ _ _ _ _ _ h adr H locs ls hr0)
  | dup =>
    obtain ⟨hd, hn, ha⟩ := hrow
    have hn : nx = pc + 1 := hn
    subst hn
    match st, h with
    | .int x :: r, h => exact lv_dup hx hb hd rfl (hKp _ _ _ _ _ _ h adr H locs ls hr0)
    | .ref x :: r, h => exact lv_dup hx hb hd rfl (hKp _ _ _ _ _ _ h adr H locs ls hr0)
  | ifCond cd off =>
    obtain ⟨hd, hn, ha⟩ := hrow
    have hn : nx = pc + 3 := hn
    subst hn
    have ht : (pc : Int) + off = (tg : Int) := ax ha rfl
    obtain ⟨x, r, e1, h⟩ := rz_pi_s h
    subst e1
    cases cd with
    | eq => exact lv_if_eq hx hb hd ht (fun z => hKp _ _ _ _ _ _ (h.1 z) adr H locs ls hr0) (fun z => hKp _ _ _ _ _ _ (h.2 z) adr H locs ls hr0)
    | ne => exact lv_if_ne hx hb hd ht (fun z => hKp _ _ _ _ _ _ (h.2 z) adr H locs ls hr0) (fun z => hKp _ _ _ _ _ _ (h.1 z) adr H locs ls hr0)
    | lt => exact lv_if_lt hx hb hd ht (fun z => hKp _ _ _ _ _ _ (h.1 z) adr H locs ls hr0) (fun z => hKp _ _ _ _ _ _ (h.2 z) adr H locs ls hr0)
    | ge => exact lv_if_ge hx hb hd ht (fun z => hKp _ _ _ _ _ _ (h.1 z) adr H locs ls hr0) (fun z => hKp _ _ _ _ _ _ (h.2 z) adr H locs ls hr0)
    | gt => exact lv_if_gt hx hb hd ht (fun z => hKp _ _ _ _ _ _ (h.1 z) adr H locs ls hr0) (fun z => hKp _ _ _ _ _ _ (h.2 z) adr H locs ls hr0)
    | le => exact lv_if_le hx hb hd ht (fun z => hKp _ _ _ _ _ _ (h.1 z) adr H locs ls hr0) (fun z => hKp _ _ _ _ _ _ (h.2 z) adr H locs ls hr0)
  | if_icmp cd off =>
    obtain ⟨hd, hn, ha⟩ := hrow
    have hn : nx = pc + 3 := hn
    subst hn
    have ht : (pc : Int) + off = (tg : Int) := ax ha rfl
    obtain ⟨y, r, e1, h⟩ := rz_pi_s h
    subst e1
    obtain ⟨x, r, e1, h⟩ := rz_pi_s h
    subst e1
    cases cd with
    | eq => exact lv_icmp_eq hx hb hd ht (fun z => hKp _ _ _ _ _ _ (h.1 z) adr H locs ls hr0) (fun z => hKp _ _ _ _ _ _ (h.2 z) adr H locs ls hr0)
    | ne => exact lv_icmp_ne hx hb hd ht (fun z => hKp _ _ _ _ _ _ (h.2 z) adr H locs ls hr0) (fun z => hKp _ _ _ _ _ _ (h.1 z) adr H locs ls hr0)
    | lt => exact lv_icmp_lt hx hb hd ht (fun z => hKp _ _ _ _ _ _ (h.1 z) adr H locs ls hr0) (fun z => hKp _ _ _ _ _ _ (h.2 z) adr H locs ls hr0)
    | ge => exact lv_icmp_ge hx hb hd ht (fun z => hKp _ _ _ _ _ _ (h.1 z) adr H locs ls hr0) (fun z => hKp _ _ _ _ _ _ (h.2 z) adr H locs ls hr0)
    | gt => exact lv_icmp_gt hx hb hd ht (fun z => hKp _ _ _ _ _ _ (h.1 z) adr H locs ls hr0) (fun z => hKp _ _ _ _ _ _ (h.2 z) adr H locs ls hr0)
    | le => exact lv_icmp_le hx hb hd ht (fun z => hKp _ _ _ _ _ _ (h.1 z) adr H locs ls hr0) (fun z => hKp _ _ _ _ _ _ (h.2 z) adr H locs ls hr0)
  | goto off =>
    obtain ⟨hd, hn, ha⟩ := hrow
    have ha : (pc : Int) + off = (tg : Int) := ax ha rfl
    exact lv_goto hx hb hd ha (hKp _ _ _ _ _ _ h adr H locs ls hr0)
  | tableswitch d lo hi offs =>
    obtain ⟨⟨len, hd⟩, h1, h2, h3⟩ := hrow
    obtain ⟨x, r, e1, h⟩ := rz_pi_s h
    subst e1
    have h3 : ∀ (j : Nat) (v : Int32) (t : Nat), sw[j]? = some (v, t) → ∃ off, offs[j]? = some off ∧ v.toInt = lo + j ∧ (pc : Int) + off = (t : Int) := by
      intro j v t hj
      have hjl : j < sw.length := (List.getElem?_eq_some_iff.mp hj).1
      have h4 := List.all_eq_true.mp h3 j (List.mem_range.mpr hjl)
      rw [hj] at h4
      cases ho : offs[j]? with
      | none => rw [ho] at h4; cases h4
      | some off =>
        rw [ho] at h4
        exact ⟨off, rfl, of_decide_eq_true h4⟩
    rcases rz_sw_s h with ⟨j, t, hj, hKt⟩ | ⟨hno, hKd⟩
    · obtain ⟨off, o1, o2, o3⟩ := h3 j x t hj
      have hjl : j < sw.length := (List.getElem?_eq_some_iff.mp hj).1
      refine lv_tableIn hx hb hd (by omega) (by omega) (off := off) ?_ o3 (hKp _ _ _ _ _ _ hKt adr H locs ls hr0)
      rw [o2, show lo + (j : Int) - lo = (j : Int) by omega]
      exact o1
    · refine lv_tableOut hx hb hd ?_ h1 (hKp _ _ _ _ _ _ hKd adr H locs ls hr0)
      by_cases z1 : x.toInt < lo
      · exact Or.inl z1
      · by_cases z2 : hi < x.toInt
        · exact Or.inr z2
        · exfalso
          have hjl : (x.toInt - lo).toNat < sw.length := by omega
          obtain ⟨off, o1, o2, o3⟩ := h3 (x.toInt - lo).toNat (sw[(x.toInt - lo).toNat]).1 (sw[(x.toInt - lo).toNat]).2 (List.getElem?_eq_getElem hjl)
          refine hno _ (List.getElem_mem hjl) (Int32.toInt_inj.mp ?_)
          rw [o2]
          omega
  | getfield ix =>
    obtain ⟨hd, hn, ha⟩ := hrow
    have hn : nx = pc + 3 := hn
    subst hn
    obtain ⟨a, r, e1, h⟩ := rz_pr_s h
    subst e1
    obtain ⟨q, hq, h⟩ := rz_op_s h
    obtain ⟨fs, hfs, h⟩ := rz_ob_s h
    obtain ⟨v, hv, h⟩ := rz_op_s h
    obtain ⟨C, T, N, g1, g2, g3, g4, -, -, -⟩ := hfld ix q hq
    have hv2 : (fs.map (rz_v adr))[q.2.1]? = some (rz_v adr v) := by rw [List.getElem?_map, hv]; rfl
    rcases g4 with g4 | g4
    · exact va_get (ci := q.1) (v := rz_v adr v) (C := C) (T := T) (N := N) hx hb hts g2 hown hK hP (rz_pos w a) (rz_get_pos hfs) g1 q.2.1 g3 g4 (fun _ h9 => h9) hv2 hd (hKp _ _ _ _ _ _ h adr H locs ls hr0)
    · exact va_getN (ci := q.1) (v := rz_v adr v) (C := C) (T := T) (N := N) hx hb hts g2 hown hK hP (rz_pos w a) (rz_get_pos hfs) g1 q.2.1 g3 g4 (fun _ h9 => h9) hv2 hd (hKp _ _ _ _ _ _ h adr H locs ls hr0)
  | putfield ix =>
    obtain ⟨hd, hn, ha⟩ := hrow
    have hn : nx = pc + 3 := hn
    subst hn
    obtain ⟨x, r, e1, h⟩ := rz_pi_s h
    subst e1
    obtain ⟨a, r, e1, h⟩ := rz_pr_s h
    subst e1
    obtain ⟨q, hq, h⟩ := rz_op_s h
    obtain ⟨fs, hfs, h⟩ := rz_ob_s h
    obtain ⟨hlt, h⟩ := rz_if_s h
    have hlt := (Bool.and_eq_true _ _).mp hlt
    obtain ⟨C, T, N, g1, g2, g3, g4, ⟨ty, g5⟩, g6, g7⟩ := hfld ix q hq
    obtain ⟨g8, g9⟩ := g7 hlt.1
    have hlen : q.2.1 < (fs.map (rz_v adr)).length := by
      rw [List.length_map]
      have h9 := hlt.2
      exact Nat.le_of_ble_eq_true h9
    have hset : ((fs.map (rz_v adr)).set q.2.1 (Value.int x)) = (fs.set q.2.1 (.int x)).map (rz_v adr) := by rw [List.map_set]; rfl
    have kk : ∀ (H1 : Heap) (locs1 : List Loc), va_P D vwCl ((rz_c cI cJ adr w).set (rz_pos w a) (adr a, .inr (q.1, (fs.map (rz_v adr)).set q.2.1 (Value.int x)))) H1 → va_D A ((rz_c cI cJ adr w).set (rz_pos w a) (adr a, .inr (q.1, (fs.map (rz_v adr)).set q.2.1 (Value.int x)))) → va_S A s.heap H1 locs1 → W p l e R s m args below meth c H1 locs1 cs sl (MQ below Qc args s RC RS free) (F0 m (pc + 3) ls (r.map (rz_v adr))) := by
      intro H1 locs1 k1 k2 k3
      have e2 : (rz_c cI cJ adr w).set (rz_pos w a) (adr a, .inr (q.1, (fs.map (rz_v adr)).set q.2.1 (Value.int x))) = rz_c cI cJ adr (rz_set w a (.inl (q.1, fs.set q.2.1 (.int x)))) := by
        rw [hset]
        exact rz_set_pos (y := .inl (q.1, fs.set q.2.1 (.int x))) hfs
      rw [e2] at k1
      exact hKp _ _ _ _ _ _ h adr H1 locs1 ls ⟨k1, by rw [rz_set_keys]; exact hD, k3, hl, hk, by rw [rz_set_keys]; exact hex, hc1, hc2⟩
    rcases g4 with g4 | g4
    · exact va_put (ci := q.1) (v := .int x) (ty := .int) (C := C) (T := T) (N := N) hx hb hts g2 ty g5 g6 hown hK hP hD.va hS (rz_pos w a) (rz_get_pos hfs) g1 q.2.1 g3 g4 (fun _ h9 => h9) g8 g9 rfl rfl hlen hd kk
    · exact va_putN (ci := q.1) (v := .int x) (ty := .int) (C := C) (T := T) (N := N) hx hb hts g2 ty g5 g6 hown hK hP hD.va hS (rz_pos w a) (rz_get_pos hfs) g1 q.2.1 g3 g4 (fun _ h9 => h9) g8 g9 rfl rfl hlen hd kk
  | iaload =>
    obtain ⟨hd, hn, ha⟩ := hrow
    have hn : nx = pc + 1 := hn
    subst hn
    obtain ⟨j, r, e1, h⟩ := rz_pi_s h
    subst e1
    obtain ⟨a, r, e1, h⟩ := rz_pr_s h
    subst e1
    obtain ⟨n, f, hg, h1, h⟩ := rz_ai_s h
    exact va_iald hx hb hK hP (rz_pos w a) 0 (rz_get_pos hg) rfl h1 hd (hKp _ _ _ _ _ _ h adr H locs ls hr0)
  | laload =>
    obtain ⟨hd, hn, ha⟩ := hrow
    have hn : nx = pc + 1 := hn
    subst hn
    obtain ⟨j, r, e1, h⟩ := rz_pi_s h
    subst e1
    obtain ⟨a, r, e1, h⟩ := rz_pr_s h
    subst e1
    obtain ⟨n, f, hg, h1, h⟩ := rz_al_s h
    exact va_lald hx hb hK hP (rz_pos w a) 1 (rz_get_pos hg) rfl h1 hd (hKp _ _ _ _ _ _ h adr H locs ls hr0)
  | iastore =>
    obtain ⟨hd, hn, ha⟩ := hrow
    have hn : nx = pc + 1 := hn
    subst hn
    obtain ⟨x, r, e1, h⟩ := rz_pi_s h
    subst e1
    obtain ⟨j, r, e1, h⟩ := rz_pi_s h
    subst e1
    obtain ⟨a, r, e1, h⟩ := rz_pr_s h
    subst e1
    obtain ⟨n, f, hg, h1, h⟩ := rz_ai_s h
    refine va_iast hx hb hK hP hD.va hS (rz_pos w a) 0 (rz_get_pos hg) rfl h1 hd (fun H1 locs1 k1 k2 k3 => ?_)
    have e2 := rz_set_pos (cI := cI) (cJ := cJ) (adr := adr) (y := .inr (.inl (n, upd f j.toNatClampNeg x))) hg
    have k1 : va_P D vwCl ((rz_c cI cJ adr w).set (rz_pos w a) (adr a, rz_e cI cJ adr (.inr (.inl (n, upd f j.toNatClampNeg x))))) H1 := k1
    rw [e2] at k1
    exact hKp _ _ _ _ _ _ h adr H1 locs1 ls ⟨k1, by rw [rz_set_keys]; exact hD, k3, hl, hk, by rw [rz_set_keys]; exact hex, hc1, hc2⟩
  | lastore =>
    obtain ⟨hd, hn, ha⟩ := hrow
    have hn : nx = pc + 1 := hn
    subst hn
    obtain ⟨x, r, e1, h⟩ := rz_pl_s h
    subst e1
    obtain ⟨j, r, e1, h⟩ := rz_pi_s h
    subst e1
    obtain ⟨a, r, e1, h⟩ := rz_pr_s h
    subst e1
    obtain ⟨n, f, hg, h1, h⟩ := rz_al_s h
    refine va_last hx hb hK hP hD.va hS (rz_pos w a) 1 (rz_get_pos hg) rfl h1 hd (fun H1 locs1 k1 k2 k3 => ?_)
    have e2 := rz_set_pos (cI := cI) (cJ := cJ) (adr := adr) (y := .inr (.inr (n, vp_updL f j.toNatClampNeg x))) hg
    have k1 : va_P D vwCl ((rz_c cI cJ adr w).set (rz_pos w a) (adr a, rz_e cI cJ adr (.inr (.inr (n, vp_updL f j.toNatClampNeg x))))) H1 := k1
    rw [e2] at k1
    exact hKp _ _ _ _ _ _ h adr H1 locs1 ls ⟨k1, by rw [rz_set_keys]; exact hD, k3, hl, hk, by rw [rz_set_keys]; exact hex, hc1, hc2⟩
  | arraylength =>
    obtain ⟨hd, hn, ha⟩ := hrow
    have hn : nx = pc + 1 := hn
    subst hn
    obtain ⟨a, r, e1, h⟩ := rz_pr_s h
    subst e1
    obtain ⟨n, f, hg, h⟩ := rz_ai_s h
    exact va_alen hx hb hK hP (rz_pos w a) 0 (rz_get_pos hg) (ty := .int) rfl rfl hd (hKp _ _ _ _ _ _ h adr H locs ls hr0)
  | newarray at1 =>
    obtain ⟨hd, hn, ha⟩ := hrow
    have hn : nx = pc + 2 := hn
    subst hn
    obtain ⟨ha1, ha2, ha3, ha4⟩ : at1 = .int ∧ ¬ ci < 0 ∧ ci.toNatClampNeg = na ∧ na ≤ 10000 := ax ha rfl
    subst ha1
    obtain ⟨x, r, e1, h⟩ := rz_pi_s h
    subst e1
    obtain ⟨hno, hx1, hcs, hsl, h5⟩ := rz_if_s h
    subst hx1
    have hno := (Bool.and_eq_true _ _).mp hno
    have hno2 := (Bool.and_eq_true _ _).mp hno.2
    refine va_newa (atype := .int) (ty := .int) (a0 := (na, .inl (fun _ => 0))) hx hb (hts _ rz_arrI) rfl hK hP hD.va hS hA (fun _ => rfl) ha2 ha3 (by show na * 4 ≤ 536870912; omega) (Nat.le_trans hcs hR.1) (Nat.le_trans hsl hR.2) hd (fun q cA H1 k0 k1 k2 k3 => ?_)
    have hcA : cA = cI := by
      have f1 := va_nm_int (k0.2 2 (cA, .int) rfl).2
      have f2 := va_nm_int (hK.2 0 (cI, .int) rfl).2
      rw [f1] at f2
      exact Option.some.inj f2
    subst hcA
    have ew := rz_noW_c (cI := cA) (cJ := cJ) (adr := adr) (q := q) hno2.2
    have e3 : rz_c cA cJ adr w ++ [(q, .inl (cA, (na, .inl (fun _ => 0))))] = rz_c cA cJ (rz_ad adr tg q) (w ++ [(tg, .inr (.inl (na, fun _ => 0)))]) := by
      unfold rz_c
      rw [List.map_append]
      have := ew.1
      unfold rz_c at this
      rw [this]
      show _ ++ [(q, _)] = _ ++ [(rz_ad adr tg q tg, _)]
      rw [rz_ad_s]
      rfl
    rw [e3] at k1 k2
    have e4 : (Value.ref q :: r.map (rz_v adr)) = (Value.ref tg :: r).map (rz_v (rz_ad adr tg q)) := by
      show Value.ref q :: r.map (rz_v adr) = Value.ref (rz_ad adr tg q tg) :: r.map (rz_v (rz_ad adr tg q))
      rw [rz_ad_s, rz_noL_v hno2.1]
    refine W.eq (g2 := F0 m (pc + 2) ls ((Value.ref tg :: r).map (rz_v (rz_ad adr tg q)))) (by rw [← e4]) ?_
    refine hKp _ _ _ _ _ _ h5 (rz_ad adr tg q) H1 locs ls ⟨k1, rz_D.of_va k2, k3, by rw [rz_noV_v hno.1]; exact hl, fun k hk9 => ?_, ?_, hcs, hsl⟩
    · have hkw : k ∈ w.map Prod.fst := by
        obtain ⟨ex, h1, -, -⟩ := hex
        rw [h1]
        exact List.mem_append_left _ hk9
      rw [rz_ad_n (fun z => ew.2 (by rw [← z]; exact hkw))]
      exact hk k hk9
    · obtain ⟨ex, h1, h2, h3⟩ := hex
      refine ⟨ex ++ [tg], by rw [List.map_append, h1, List.append_assoc]; rfl, by rw [List.length_append]; exact Nat.add_le_add_right h2 1, fun k hk8 => ?_⟩
      have hk7 : k ≠ tg := fun z => hk8 (List.mem_append_right _ (by rw [z]; exact List.mem_cons_self))
      rw [rz_ad_n hk7]
      exact h3 k (fun z => hk8 (List.mem_append_left _ z))
  | ireturn =>
    obtain ⟨hd, hn, ha⟩ := hrow
    have ha : ret = some (if bz then .boolean else .int) := ax ha rfl
    obtain ⟨x, r, e1, h⟩ := rz_pi_s h
    subst e1
    have fin : Q (some (.int x)) w → r = [] → narrow (if bz then .boolean else .int) (.int x) = .int x → W p l e R s m args below meth c H locs cs sl (MQ below Qc args s RC RS free) (F0 m pc ls ((Value.int x :: r).map (rz_v adr))) := by
      intro hq hr1 hnr
      subst hr1
      obtain ⟨f1, f2⟩ := hfin adr lv w cs sl H locs ls _ hr0 hq
      exact W.widen hc1 hc2 (W.zret hx hb (hr.trans ha) hnr f2 f1 hd hlocks)
    match r, bz, h with
    | [], false, h => exact fin h rfl rfl
    | [], true, h =>
      refine fin h.2 rfl ?_
      rcases h.1 with z | z <;> rw [z] <;> decide
  | lreturn =>
    obtain ⟨hd, hn, ha⟩ := hrow
    have ha : ret = some .long := ax ha rfl
    obtain ⟨x, r, e1, h⟩ := rz_pl_s h
    subst e1
    match r, h with
    | [], h =>
      obtain ⟨f1, f2⟩ := hfin adr lv w cs sl H locs ls _ hr0 h
      exact W.widen hc1 hc2 (W.lret hx hb (hr.trans ha) f2 f1 hd hlocks)
  | return_ =>
    obtain ⟨hd, hn, ha⟩ := hrow
    have ha : ret = none := ax ha rfl
    match st, h with
    | [], h =>
      obtain ⟨f1, f2⟩ := hfin adr lv w cs sl H locs ls _ hr0 h
      exact W.widen hc1 hc2 (W.vret hx hb (hr.trans ha) f2 f1 hd hlocks)
  | invokestatic ix =>
    obtain ⟨hd, hn, ha⟩ := hrow
    have hn : nx = pc + 3 := hn
    subst hn
    obtain ⟨ce, hq, h⟩ := rz_op_s h
    exact callk (hcal ix ce hq) hd h
  | invokevirtual ix =>
    obtain ⟨hd, hn, ha⟩ := hrow
    have hn : nx = pc + 3 := hn
    subst hn
    obtain ⟨ce, hq, h⟩ := rz_op_s h
    exact callk (hcav ix ce hq) hd h
  | _ => exact h.elim
end RZS
end
section
/-! A method's contract out of rz_run: entry, loops, calls. -/
def rz_args : Nat → List Value → rz_L
  | _, [] => []
  | i, v :: vs => match rz_two v with
    | true => (i, v) :: rz_args (i + 2) vs
    | false => (i, v) :: rz_args (i + 1) vs
theorem rz_args_l (adr : Nat → Nat) : ∀ (av : List Value) (i : Nat), lv_args i (av.map (rz_v adr)) = rz_l adr (rz_args i av)
  | [], _ => rfl
  | v :: vs, i => by
    show (i, rz_v adr v) :: lv_args (if (rz_v adr v).category = 2 then i + 2 else i + 1) (vs.map (rz_v adr)) = _
    rw [rz_cat]
    unfold rz_args
    cases h : rz_two v with
    | true =>
      show (i, rz_v adr v) :: lv_args (i + 2) (vs.map (rz_v adr)) = (i, rz_v adr v) :: rz_l adr (rz_args (i + 2) vs)
      rw [rz_args_l adr vs (i + 2)]
    | false =>
      show (i, rz_v adr v) :: lv_args (i + 1) (vs.map (rz_v adr)) = (i, rz_v adr v) :: rz_l adr (rz_args (i + 1) vs)
      rw [rz_args_l adr vs (i + 1)]
theorem rz_sl_len (adr : Nat → Nat) : ∀ av : List Value, (lg_sl (av.map (rz_v adr))).length = rz_words av
  | [] => rfl
  | v :: vs => by
    have h1 : lg_sl ((v :: vs).map (rz_v adr)) = (if (rz_v adr v).category = 2 then [.val (rz_v adr v), .second] else [.val (rz_v adr v)]) ++ lg_sl (vs.map (rz_v adr)) := by
      simp [lg_sl]
    rw [h1, List.length_append, rz_sl_len adr vs, rz_cat]
    show _ = match rz_two v with
      | true => rz_words vs + 2
      | false => rz_words vs + 1
    cases rz_two v with
    | true => show 2 + rz_words vs = rz_words vs + 2; omega
    | false => show 1 + rz_words vs = rz_words vs + 1; omega
section RZM
variable {p : Program} {l : Launch} {e : Env} {R : Room} {s : State} {m : MethodId} {args : Array Value} {below : List Frame} {meth : Method} {c : Code} {QQ : State → Prop}
theorem rz_run_sound {D : va_G} {cI cJ : ClassId} {A : Nat → Prop} {nL : Nat} {ks : List Nat} {RC RS : Nat} {adr0 : Nat → Nat} {own : String} {cc : ByteArray} {ret : Option FieldType} {bz : Bool} {cod : List (Nat × rz_I)} {fld : List (Nat × Nat × Nat × Bool)} {cal cav : List (Nat × rz_K)} {sw : List (Int32 × Nat)} {J : List (Nat × rz_J)} {Q : Option Value → rz_W → Prop} {Qc : Array Value → State → Outcome → State → Prop} {free : Addr → Prop}
    (hx : p.tables.exec = Jvm.exec) (hb : c.code = cc) (hlocks : meth.locks = false) (hml : c.maxLocals = nL) (hown : s.vm.findClass own = some m.cls) (hts : ∀ w ∈ bw, w.before args s = true) (hnw : rz_NW s) (hK : va_K D vwCl [(cI, .int), (cJ, .long)] s) (hA : ∀ q, s.heap.size ≤ q → A q) (hR : RC ≤ R.cells ∧ RS ≤ R.slots) (hr : meth.sig.returnType = ret)
    (hfld : ∀ ix q, rz_get fld ix = some q → rz_FOK own s args ix q) (hcal : ∀ ix ce, rz_get cal ix = some ce → rz_CallOK l R own cc (.invokestatic ix) ce) (hcav : ∀ ix ce, rz_get cav ix = some ce → rz_CallOK l R own cc (.invokevirtual ix) ce)
    (hfin : ∀ (adr : Nat → Nat) (lv : rz_L) (w : rz_W) (cs sl : Nat) (H : Heap) (locs : List Loc) (ls : Array Slot) (o : Option Value), rz_Rel D cI cJ A s nL ks RC RS adr0 adr lv w cs sl H locs ls → Q o w → (∀ q ∈ locs, free q.base) ∧ ∀ t : State, t.heap = H → s.WarmedH t.vm → Qc args s (.returned o) t)
    (hrows : ∀ q ∈ cod, rz_row cc nL ret bz sw q.1 q.2) {n0 : Nat}
    (hcut : ∀ k, k < n0 → ∀ pc j, rz_get J pc = some j → ∀ lv w, j.2 k lv w → rz_G p l e R s m args below meth c (MQ below Qc args s RC RS free) D cI cJ A nL ks RC RS adr0 pc lv [] w RC RS) :
    ∀ n pc lv st w cs sl, rz_run cod fld cal cav sw bz RC RS J Q n0 n pc lv st w cs sl → rz_G p l e R s m args below meth c (MQ below Qc args s RC RS free) D cI cJ A nL ks RC RS adr0 pc lv st w cs sl := by
  intro n
  induction n with
  | zero => intro pc lv st w cs sl h; exact h.elim
  | succ n ih =>
    intro pc lv st w cs sl h
    obtain ⟨⟨i, nx, tg, na, ci, cl⟩, hi, h⟩ := rz_op_s h
    refine rz_step (own := own) (ret := ret) hx hb hlocks hml hown hts hnw hK hA hR hr hfld hcal hcav hfin (hrows (pc, _) (rz_get_mem hi)) (fun pc lv st w cs sl hk => ?_) h
    cases hj : rz_get J pc with
    | none =>
      rw [hj] at hk
      exact ih pc lv st w cs sl hk
    | some j =>
      rw [hj] at hk
      match st, hk with
      | [], hk =>
        obtain ⟨k, hk1, hk2⟩ := hk
        intro adr H locs ls hrel
        obtain ⟨hP, hD, hS, hl, hkk, ⟨ex, e1, e2, e3⟩, hc1, hc2⟩ := hrel
        exact W.widen hc1 hc2 (hcut k hk1 pc j hj _ w hk2 adr H locs ls ⟨hP, hD, hS, rz_lv_keep j.1 hl, hkk, ⟨ex, e1, Nat.le_trans e2 hc1, e3⟩, Nat.le_refl _, Nat.le_refl _⟩)
theorem rz_loops {D : va_G} {cI cJ : ClassId} {A : Nat → Prop} {nL : Nat} {ks : List Nat} {RC RS : Nat} {adr0 : Nat → Nat} {own : String} {cc : ByteArray} {ret : Option FieldType} {bz : Bool} {cod : List (Nat × rz_I)} {fld : List (Nat × Nat × Nat × Bool)} {cal cav : List (Nat × rz_K)} {sw : List (Int32 × Nat)} {J : List (Nat × rz_J)} {Q : Option Value → rz_W → Prop} {Qc : Array Value → State → Outcome → State → Prop} {free : Addr → Prop}
    (hx : p.tables.exec = Jvm.exec) (hb : c.code = cc) (hlocks : meth.locks = false) (hml : c.maxLocals = nL) (hown : s.vm.findClass own = some m.cls) (hts : ∀ w ∈ bw, w.before args s = true) (hnw : rz_NW s) (hK : va_K D vwCl [(cI, .int), (cJ, .long)] s) (hA : ∀ q, s.heap.size ≤ q → A q) (hR : RC ≤ R.cells ∧ RS ≤ R.slots) (hr : meth.sig.returnType = ret)
    (hfld : ∀ ix q, rz_get fld ix = some q → rz_FOK own s args ix q) (hcal : ∀ ix ce, rz_get cal ix = some ce → rz_CallOK l R own cc (.invokestatic ix) ce) (hcav : ∀ ix ce, rz_get cav ix = some ce → rz_CallOK l R own cc (.invokevirtual ix) ce)
    (hfin : ∀ (adr : Nat → Nat) (lv : rz_L) (w : rz_W) (cs sl : Nat) (H : Heap) (locs : List Loc) (ls : Array Slot) (o : Option Value), rz_Rel D cI cJ A s nL ks RC RS adr0 adr lv w cs sl H locs ls → Q o w → (∀ q ∈ locs, free q.base) ∧ ∀ t : State, t.heap = H → s.WarmedH t.vm → Qc args s (.returned o) t)
    (hrows : ∀ q ∈ cod, rz_row cc nL ret bz sw q.1 q.2) {N : Nat}
    (hJ : ∀ q ∈ J, ∀ k lv w, q.2.2 k lv w → rz_run cod fld cal cav sw bz RC RS J Q k N q.1 lv [] w RC RS) :
    ∀ k pc j, rz_get J pc = some j → ∀ lv w, j.2 k lv w → rz_G p l e R s m args below meth c (MQ below Qc args s RC RS free) D cI cJ A nL ks RC RS adr0 pc lv [] w RC RS := by
  intro k
  induction k using Nat.strongRecOn with
  | _ k ih =>
    intro pc j hj lv w hjk
    exact rz_run_sound (own := own) (ret := ret) hx hb hlocks hml hown hts hnw hK hA hR hr hfld hcal hcav hfin hrows (fun k' hk' pc' j' hj' lv' w' h' => ih k' hk' pc' j' hj' lv' w' h') N pc lv [] w RC RS (hJ (pc, j) (rz_get_mem hj) k lv w hjk)
end RZM
abbrev rz_room (d mc ms : Nat) : Room := { frames := d, cells := mc, slots := ms, locals := 40 * d }
def rz_Pre (D : va_G) (cI cJ : ClassId) (adr : Nat → Nat) (sz : Nat) (av : List Value) (w : rz_W) : Array Value → State → Prop := va_Pc (av.map (rz_v adr)) (fun U => U.heap.size = sz ∧ va_P D vwCl (rz_c cI cJ adr w) U.heap ∧ va_K D vwCl [(cI, .int), (cJ, .long)] U ∧ va_D (fun _ => True) (rz_c cI cJ adr w) ∧ rz_NW U)
/-- a method's contract: y of level d, by its callee's row -/
def rz_Con (l : Launch) (y : MethodName) (cc : ByteArray) (nL : Nat) (ret : Option FieldType) (d mc ms : Nat) (ce : rz_K) : Prop := ∀ (D : va_G) (cI cJ : ClassId) (adr : Nat → Nat) (sz : Nat) (av : List Value) (w : rz_W), av.length = ce.1 → w.map Prod.fst = ce.2.1 → ce.2.2.2.2.1 av w →
  Met l y (.code y cc nL ret :: bw) (rz_room d mc ms) (rz_Pre D cI cJ adr sz av w) (rz_Qc ce D cI cJ adr av w (va_A (rz_c cI cJ adr w) sz)) mc ms (va_A (rz_c cI cJ adr w) sz)
def rz_end (ce : rz_K) (av : List Value) (w : rz_W) : Option Value → rz_W → Prop := fun o w' => rz_kind ce.2.2.1 o ∧ (ce.2.2.2.1 = true → w' = w) ∧ ce.2.2.2.2.2 av w o w'
/-- what is to be shown of a method without new cells: entry, and each loop's head -/
def rz_VC (cod : List (Nat × rz_I)) (fld : List (Nat × Nat × Nat × Bool)) (cal cav : List (Nat × rz_K)) (sw : List (Int32 × Nat)) (bz : Bool) (nL : Nat) (ce : rz_K) : Prop := ∀ (av : List Value) (w : rz_W), av.length = ce.1 → w.map Prod.fst = ce.2.1 → ce.2.2.2.2.1 av w →
  rz_words av ≤ nL ∧ ∃ (J : List (Nat × rz_J)) (N n0 : Nat), (∀ q ∈ J, ∀ k lv w', q.2.2 k lv w' → rz_run cod fld cal cav sw bz 0 0 J (rz_end ce av w) k N q.1 lv [] w' 0 0) ∧ rz_run cod fld cal cav sw bz 0 0 J (rz_end ce av w) n0 N 0 (rz_args 0 av) [] w 0 0
/-- the fields that a class's methods name by pool numbers -/
def rz_Fld (own : String) (fld : List (Nat × Nat × Nat × Bool)) : Prop := ∀ (s : State) (args : Array Value), (∀ w ∈ bw, w.before args s = true) → rz_NW s → ∀ ix q, rz_get fld ix = some q → rz_FOK own s args ix q
theorem rz_con {l : Launch} {y : MethodName} {cc : ByteArray} {nL d : Nat} {ret : Option FieldType} {bz : Bool} {cod : List (Nat × rz_I)} {fld : List (Nat × Nat × Nat × Bool)} {cal cav : List (Nat × rz_K)} {sw : List (Int32 × Nat)} {ce : rz_K}
    (hy : plainName y.cls = true) (hfld : rz_Fld y.cls fld) (hcal : ∀ q ∈ cal, rz_CallOK l (rz_room d 0 0) y.cls cc (.invokestatic q.1) q.2) (hcav : ∀ q ∈ cav, rz_CallOK l (rz_room d 0 0) y.cls cc (.invokevirtual q.1) q.2)
    (hrows : ∀ q ∈ cod, rz_row cc nL ret bz sw q.1 q.2) (hvc : rz_VC cod fld cal cav sw bz nL ce) : rz_Con l y cc nL ret d 0 0 ce := by
  intro D cI cJ adr sz av w hav hkeys hpre
  refine Met.ofW (cc := cc) (maxL := nL) (ret := ret) hy rfl ?_
  intro p e s m args below meth c s₁ B hml hv
  obtain ⟨hargs, hsz, hP, hK, hD0, hnw⟩ := hv
  subst hargs
  have hts0 := atoms_spec (ws := .code y cc nL ret :: bw) B.pre
  have hts : ∀ w ∈ bw, w.before (av.map (rz_v adr)).toArray s = true := fun w hw => hts0 w (List.mem_cons_of_mem _ hw)
  have hown : s.vm.findClass y.cls = some m.cls := findClass_of_methodNamed B.named
  subst hsz
  have hD := hD0.self (sz := s.heap.size)
  obtain ⟨hwd, J, N, n0, hJ, h0⟩ := hvc av w hav hkeys hpre
  have hl := lv_entry (av.map (rz_v adr)) (n := nL) (by rw [rz_sl_len]; exact hwd)
  rw [lg_entry_eq]
  rw [rz_args_l] at hl
  have hA : ∀ q : Nat, s.heap.size ≤ q → va_A (rz_c cI cJ adr w) s.heap.size q := fun q h => Or.inr h
  have hR : (0 : Nat) ≤ (rz_room d 0 0).cells ∧ 0 ≤ (rz_room d 0 0).slots := ⟨Nat.zero_le _, Nat.zero_le _⟩
  have hfin : ∀ (adr1 : Nat → Nat) (lv : rz_L) (w1 : rz_W) (cs sl : Nat) (H : Heap) (locs : List Loc) (ls : Array Slot) (o : Option Value), rz_Rel D cI cJ (va_A (rz_c cI cJ adr w) s.heap.size) s nL ce.2.1 0 0 adr adr1 lv w1 cs sl H locs ls → rz_end ce av w o w1 → (∀ q ∈ locs, va_A (rz_c cI cJ adr w) s.heap.size q.base) ∧ ∀ t : State, t.heap = H → s.WarmedH t.vm → rz_Qc ce D cI cJ adr av w (va_A (rz_c cI cJ adr w) s.heap.size) (av.map (rz_v adr)).toArray s (.returned o) t := by
    intro adr1 lv w1 cs sl H locs ls o hrel hq
    obtain ⟨g1, g2, g3, g4, g5, ⟨ex, g6, g7, g10⟩, g8, g9⟩ := hrel
    have hex : ex = [] := List.eq_nil_of_length_eq_zero (by omega)
    rw [hex, List.append_nil] at g6
    refine ⟨g3.2.2, fun t ht hW => ⟨⟨o, w1, rfl, hq.1, g6, hq.2.1, hq.2.2, ?_⟩, g3.F ht⟩⟩
    rw [ht]
    have hadr : adr1 = adr := funext (fun k => g10 k (by rw [hex]; exact List.not_mem_nil))
    rw [← hadr]
    exact g1
  have hG := rz_run_sound (own := y.cls) (ret := ret) (adr0 := adr) (ks := ce.2.1) (R := rz_room d 0 0) (e := e) (below := below) (free := va_A (rz_c cI cJ adr w) s.heap.size) B.exec B.bytes B.notSynchronized hml hown hts hnw hK hA hR B.returns (hfld s _ hts hnw) (fun ix ce9 h9 => hcal (ix, ce9) (rz_get_mem h9)) (fun ix ce9 h9 => hcav (ix, ce9) (rz_get_mem h9)) hfin hrows (n0 := n0)
    (fun k _ pc j hj lv w9 hjk => rz_loops (own := y.cls) (ret := ret) (adr0 := adr) (ks := ce.2.1) (R := rz_room d 0 0) (e := e) (below := below) B.exec B.bytes B.notSynchronized hml hown hts hnw hK hA hR B.returns (hfld s _ hts hnw) (fun ix ce9 h9 => hcal (ix, ce9) (rz_get_mem h9)) (fun ix ce9 h9 => hcav (ix, ce9) (rz_get_mem h9)) hfin hrows hJ k pc j hj lv w9 hjk) N 0 (rz_args 0 av) [] w 0 0 h0
  exact hG adr s.heap [] _ ⟨hP, rz_D.of_va hD, va_S.rf, hl, fun _ _ => rfl, ⟨[], by rw [hkeys, List.append_nil], Nat.le_refl _, fun _ _ => rfl⟩, Nat.le_refl _, Nat.le_refl _⟩
end
