/-! Links of calls: by program. -/
theorem n_X2_40 : Cond.methodLink RX2 40 yJ7_fill_53178 ∈ bw := bw_t 31 (by decide +kernel) rfl
theorem n_X1_28 : Cond.methodLink RX1 28 yJ7_fill_53178 ∈ bw := bw_t 226 (by decide +kernel) rfl
theorem n_X6_55 : Cond.methodLink RX6 55 yX6_isPlace ∈ bw := bw_t 271 (by decide +kernel) rfl
theorem n_X6_59 : Cond.methodLink RX6 59 yX6_isWithin ∈ bw := bw_t 274 (by decide +kernel) rfl
theorem n_X6_63 : Cond.methodLinkNest RX6 63 yX2_addPost "CoastWatch" ∈ tables_1 := List.mem_of_getElem? (i := 277) (by decide +kernel)
theorem n_X6_67 : Cond.methodLinkNest RX6 67 yX2_addReach "CoastWatch" ∈ tables_1 := List.mem_of_getElem? (i := 285) (by decide +kernel)
theorem n_X6_71 : Cond.methodLink RX6 71 yX6_isHour ∈ bw := bw_t 293 (by decide +kernel) rfl
theorem n_X6_79 : Cond.methodLinkNest RX6 79 yX2_hasPost "CoastWatch" ∈ tables_1 := List.mem_of_getElem? (i := 300) (by decide +kernel)
theorem n_X2_46 : Cond.methodLinkNest RX2 46 yX6_isWithin "CoastWatch" ∈ tables_1 := List.mem_of_getElem? (i := 304) (by decide +kernel)
theorem n_X6_82 : Cond.methodLinkNest RX6 82 yX2_isSeen "CoastWatch" ∈ tables_1 := List.mem_of_getElem? (i := 305) (by decide +kernel)
theorem n_X6_86 : Cond.methodLinkNest RX6 86 yX2_fewestPosts "CoastWatch" ∈ tables_1 := List.mem_of_getElem? (i := 313) (by decide +kernel)
theorem n_X2_58 : Cond.methodLink RX2 58 yX2_reachesSeen ∈ bw := bw_t 317 (by decide +kernel) rfl
theorem n_X2_54 : Cond.methodLink RX2 54 yX2_reachesSeenBy ∈ bw := bw_t 321 (by decide +kernel) rfl
theorem n_X2_50 : Cond.methodLink RX2 50 yX2_isSeen ∈ bw := bw_t 325 (by decide +kernel) rfl
theorem n_X2_62 : Cond.methodLink RX2 62 yJ6_bitCount_0f7a4 ∈ bw := bw_t 326 (by decide +kernel) rfl
theorem n_X2_67 : Cond.methodLink RX2 67 yX2_seenBySet ∈ bw := bw_t 332 (by decide +kernel) rfl
theorem n_X6_90 : Cond.methodLinkNest RX6 90 yX2_reachesUnseen "CoastWatch" ∈ tables_1 := List.mem_of_getElem? (i := 340) (by decide +kernel)
theorem n_X6_93 : Cond.methodLink RX6 93 yX6_isEdge ∈ bw := bw_t 348 (by decide +kernel) rfl
theorem n_X6_102 : Cond.methodLinkNest RX6 102 yX5_add "CoastWatch" ∈ tables_1 := List.mem_of_getElem? (i := 351) (by decide +kernel)
theorem n_X6_105 : Cond.methodLinkNest RX6 105 yX5_setEdges "CoastWatch" ∈ tables_1 := List.mem_of_getElem? (i := 355) (by decide +kernel)
theorem n_X6_109 : Cond.methodLink RX6 109 yX6_meet ∈ bw := bw_t 363 (by decide +kernel) rfl
theorem n_X6_190 : Cond.methodLinkNest RX6 190 yX5_has "CoastWatch" ∈ tables_1 := List.mem_of_getElem? (i := 367) (by decide +kernel)
theorem n_X5_37 : Cond.methodLinkNest RX5 37 yX6_isWithin "CoastWatch" ∈ tables_1 := List.mem_of_getElem? (i := 371) (by decide +kernel)
theorem n_X6_193 : Cond.methodLinkNest RX6 193 yX5_canMeet "CoastWatch" ∈ tables_1 := List.mem_of_getElem? (i := 372) (by decide +kernel)
theorem n_X6_196 : Cond.methodLinkNest RX6 196 yX5_putHalfPlanes "CoastWatch" ∈ tables_1 := List.mem_of_getElem? (i := 376) (by decide +kernel)
theorem n_X5_41 : Cond.methodLinkNest RX5 41 yX4_putLeftSide "CoastWatch" ∈ tables_1 := List.mem_of_getElem? (i := 380) (by decide +kernel)
theorem n_X5_47 : Cond.methodLinkNest RX5 47 yX4_putEdge "CoastWatch" ∈ tables_1 := List.mem_of_getElem? (i := 384) (by decide +kernel)
theorem n_X6_200 : Cond.methodLinkNest RX6 200 yX4_findCorners "CoastWatch" ∈ tables_1 := List.mem_of_getElem? (i := 388) (by decide +kernel)
theorem n_X4_43 : Cond.methodLink RX4 43 yX4_tryCrossing ∈ bw := bw_t 392 (by decide +kernel) rfl
theorem n_X4_47 : Cond.methodLink RX4 47 yX4_isInside ∈ bw := bw_t 396 (by decide +kernel) rfl
theorem n_X4_51 : Cond.methodLink RX4 51 yX4_insert ∈ bw := bw_t 400 (by decide +kernel) rfl
theorem n_X4_55 : Cond.methodLink RX4 55 yX4_order ∈ bw := bw_t 404 (by decide +kernel) rfl
theorem n_X4_66 : Cond.methodLink RX4 66 yJ13_compare_74951 ∈ bw := bw_t 408 (by decide +kernel) rfl
theorem n_X4_59 : Cond.methodLink RX4 59 yX4_commonDivisor ∈ bw := bw_t 411 (by decide +kernel) rfl
theorem n_X4_72 : Cond.methodLink RX4 72 yJ9_abs_067f4 ∈ bw := bw_t 414 (by decide +kernel) rfl
theorem n_X4_63 : Cond.methodLink RX4 63 yX4_over ∈ bw := bw_t 417 (by decide +kernel) rfl
theorem n_X6_203 : Cond.methodLinkNest RX6 203 yX4_kind "CoastWatch" ∈ tables_1 := List.mem_of_getElem? (i := 420) (by decide +kernel)
theorem n_X4_78 : Cond.methodLink RX4 78 yX4_isEndless ∈ bw := bw_t 424 (by decide +kernel) rfl
theorem n_X4_82 : Cond.methodLink RX4 82 yX4_runsInside ∈ bw := bw_t 428 (by decide +kernel) rfl
theorem n_X6_125 : Cond.methodLinkNest RX6 125 yX3_takes "CoastWatch" ∈ tables_1 := List.mem_of_getElem? (i := 440) (by decide +kernel)
theorem n_X6_131 : Cond.methodLinkNest RX6 131 yX3_add "CoastWatch" ∈ tables_1 := List.mem_of_getElem? (i := 444) (by decide +kernel)
theorem n_X3_49 : Cond.methodLinkNest RX3 49 yX4_boxSide "CoastWatch" ∈ tables_1 := List.mem_of_getElem? (i := 448) (by decide +kernel)
theorem n_X4_86 : Cond.methodLink RX4 86 yX4_least ∈ bw := bw_t 452 (by decide +kernel) rfl
theorem n_X4_95 : Cond.methodLink RX4 95 yX4_floor ∈ bw := bw_t 457 (by decide +kernel) rfl
theorem n_X4_106 : Cond.methodLink RX4 106 yJ9_floorDiv_f86c9 ∈ bw := bw_t 460 (by decide +kernel) rfl
theorem n_X4_98 : Cond.methodLink RX4 98 yJ9_min_f86c9 ∈ bw := bw_t 463 (by decide +kernel) rfl
theorem n_X4_90 : Cond.methodLink RX4 90 yX4_greatest ∈ bw := bw_t 466 (by decide +kernel) rfl
theorem n_X4_103 : Cond.methodLink RX4 103 yJ9_max_f86c9 ∈ bw := bw_t 471 (by decide +kernel) rfl
theorem n_X3_55 : Cond.methodLink RX3 55 yX3_nearestTrack ∈ bw := bw_t 474 (by decide +kernel) rfl
theorem n_X3_58 : Cond.methodLink RX3 58 yX3_squaredDistance ∈ bw := bw_t 478 (by decide +kernel) rfl
theorem n_X3_62 : Cond.methodLink RX3 62 yX3_gap ∈ bw := bw_t 482 (by decide +kernel) rfl
theorem n_X6_137 : Cond.methodLinkNest RX6 137 yX3_partOf "CoastWatch" ∈ tables_1 := List.mem_of_getElem? (i := 493) (by decide +kernel)
theorem n_X3_66 : Cond.methodLinkNest RX3 66 yX6_isWithin "CoastWatch" ∈ tables_1 := List.mem_of_getElem? (i := 497) (by decide +kernel)
theorem n_X6_140 : Cond.methodLink RX6 140 yX6_isMinute ∈ bw := bw_t 502 (by decide +kernel) rfl
theorem n_X6_143 : Cond.methodLinkNest RX6 143 yX0_takesPlan "CoastWatch" ∈ tables_1 := List.mem_of_getElem? (i := 505) (by decide +kernel)
theorem n_X0_41 : Cond.methodLink RX0 41 yX0_hasBoat ∈ bw := bw_t 509 (by decide +kernel) rfl
theorem n_X0_37 : Cond.methodLinkNest RX0 37 yX6_isWithin "CoastWatch" ∈ tables_1 := List.mem_of_getElem? (i := 513) (by decide +kernel)
theorem n_X0_45 : Cond.methodLink RX0 45 yX0_isIn ∈ bw := bw_t 514 (by decide +kernel) rfl
theorem n_X6_146 : Cond.methodLinkNest RX6 146 yX0_addPlan "CoastWatch" ∈ tables_1 := List.mem_of_getElem? (i := 518) (by decide +kernel)
theorem n_X6_150 : Cond.methodLinkNest RX6 150 yX0_hasBoat "CoastWatch" ∈ tables_1 := List.mem_of_getElem? (i := 526) (by decide +kernel)
theorem n_X6_153 : Cond.methodLinkNest RX6 153 yX0_isIn "CoastWatch" ∈ tables_1 := List.mem_of_getElem? (i := 527) (by decide +kernel)
theorem n_X6_159 : Cond.methodLinkNest RX6 159 yX0_stateOf "CoastWatch" ∈ tables_1 := List.mem_of_getElem? (i := 532) (by decide +kernel)
theorem n_X0_48 : Cond.methodLink RX0 48 yX0_planKnown ∈ bw := bw_t 536 (by decide +kernel) rfl
theorem n_X6_165 : Cond.methodLinkNest RX6 165 yX1_writeMinutes "CoastWatch" ∈ tables_1 := List.mem_of_getElem? (i := 548) (by decide +kernel)
theorem n_X1_34 : Cond.methodLink RX1 34 yX1_nextCall ∈ bw := bw_t 552 (by decide +kernel) rfl
theorem n_X1_47 : Cond.methodLink RX1 47 yX1_callMinute ∈ bw := bw_t 556 (by decide +kernel) rfl
theorem n_X1_51 : Cond.methodLinkNest RX1 51 yX0_isIn "CoastWatch" ∈ tables_1 := List.mem_of_getElem? (i := 560) (by decide +kernel)
theorem n_X1_55 : Cond.methodLinkNest RX1 55 yX0_firstOverdue "CoastWatch" ∈ tables_1 := List.mem_of_getElem? (i := 561) (by decide +kernel)
theorem n_X1_38 : Cond.methodLink RX1 38 yX1_writeMinute ∈ bw := bw_t 565 (by decide +kernel) rfl
theorem n_X1_59 : Cond.methodLink RX1 59 yX1_writeLine ∈ bw := bw_t 569 (by decide +kernel) rfl
theorem n_X6_169 : Cond.methodLinkNest RX6 169 yX1_partOf "CoastWatch" ∈ tables_1 := List.mem_of_getElem? (i := 577) (by decide +kernel)
theorem n_X1_63 : Cond.methodLink RX1 63 yJ9_min_7cf53 ∈ bw := bw_t 581 (by decide +kernel) rfl
theorem n_X1_69 : Cond.methodLinkNest RX1 69 yX6_isWithin "CoastWatch" ∈ tables_1 := List.mem_of_getElem? (i := 584) (by decide +kernel)
theorem n_X6_187 : Cond.methodLinkNest RX6 187 yX0_overdueAt "CoastWatch" ∈ tables_1 := List.mem_of_getElem? (i := 589) (by decide +kernel)
theorem n_X0_52 : Cond.methodLink RX0 52 yX0_firstOverdue ∈ bw := bw_t 593 (by decide +kernel) rfl
theorem n_X6_118 : Cond.methodLinkNest RX6 118 yX4_cornerPart "CoastWatch" ∈ tables_1 := List.mem_of_getElem? (i := 663) (by decide +kernel)
theorem n_X6_122 : Cond.methodLinkNest RX6 122 yX4_boxSide "CoastWatch" ∈ tables_1 := List.mem_of_getElem? (i := 674) (by decide +kernel)
theorem n_X7_94 : Cond.methodLink RX7 94 yX7_isPlace ∈ bw := bw_t 795 (by decide +kernel) rfl
theorem n_X7_87 : Cond.methodLink RX7 87 yX7_isIn ∈ bw := bw_t 798 (by decide +kernel) rfl
theorem n_X7_101 : Cond.methodLink RX7 101 yX7_seesAt ∈ bw := bw_t 813 (by decide +kernel) rfl
theorem n_X7_105 : Cond.methodLink RX7 105 yX7_seenBy ∈ bw := bw_t 821 (by decide +kernel) rfl
theorem n_X7_109 : Cond.methodLink RX7 109 yX7_bits ∈ bw := bw_t 825 (by decide +kernel) rfl
theorem n_X7_150 : Cond.methodLink RX7 150 yX7_meets ∈ bw := bw_t 840 (by decide +kernel) rfl
theorem n_X7_124 : Cond.methodLink RX7 124 yX7_isPair ∈ bw := bw_t 844 (by decide +kernel) rfl
theorem n_X7_119 : Cond.methodLink RX7 119 yX7_of ∈ bw := bw_t 848 (by decide +kernel) rfl
theorem n_X7_127 : Cond.methodLink RX7 127 yX7_bounds ∈ bw := bw_t 852 (by decide +kernel) rfl
theorem n_X7_134 : Cond.methodLink RX7 134 yX7_cross ∈ bw := bw_t 857 (by decide +kernel) rfl
theorem n_X7_137 : Cond.methodLink RX7 137 yX7_isWithin ∈ bw := bw_t 861 (by decide +kernel) rfl
theorem n_X7_141 : Cond.methodLink RX7 141 yX7_compare ∈ bw := bw_t 865 (by decide +kernel) rfl
theorem n_X7_145 : Cond.methodLink RX7 145 yJ13_compare_74951 ∈ bw := bw_t 869 (by decide +kernel) rfl
theorem n_X7_159 : Cond.methodLink RX7 159 yX7_common ∈ bw := bw_t 878 (by decide +kernel) rfl
theorem n_X7_153 : Cond.methodLink RX7 153 yJ9_abs_067f4 ∈ bw := bw_t 881 (by decide +kernel) rfl
theorem n_X7_172 : Cond.methodLink RX7 172 yX7_boxOf ∈ bw := bw_t 886 (by decide +kernel) rfl
theorem n_X7_163 : Cond.methodLink RX7 163 yJ9_floorDiv_f86c9 ∈ bw := bw_t 890 (by decide +kernel) rfl
theorem n_X7_166 : Cond.methodLink RX7 166 yJ9_min_f86c9 ∈ bw := bw_t 891 (by decide +kernel) rfl
theorem n_X7_169 : Cond.methodLink RX7 169 yJ9_max_f86c9 ∈ bw := bw_t 892 (by decide +kernel) rfl
theorem n_X7_181 : Cond.methodLink RX7 181 yX7_latest ∈ bw := bw_t 897 (by decide +kernel) rfl
theorem n_X7_184 : Cond.methodLink RX7 184 yX7_gap ∈ bw := bw_t 901 (by decide +kernel) rfl
theorem n_X7_191 : Cond.methodLink RX7 191 yJ9_min_7cf53 ∈ bw := bw_t 916 (by decide +kernel) rfl
theorem n_X7_202 : Cond.methodLink RX7 202 yX7_stands ∈ bw := bw_t 925 (by decide +kernel) rfl
theorem n_X7_199 : Cond.methodLink RX7 199 yX7_lastPlan ∈ bw := bw_t 929 (by decide +kernel) rfl
theorem n_X7_196 : Cond.methodLink RX7 196 yX7_ofPlan ∈ bw := bw_t 933 (by decide +kernel) rfl
theorem n_X7_206 : Cond.methodLink RX7 206 yX7_overdue ∈ bw := bw_t 945 (by decide +kernel) rfl
