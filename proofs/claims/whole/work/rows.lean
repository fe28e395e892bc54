section
-- ===== PART A: goes FIRST, ahead of the names: the tables' words, and 'selects' of the private methods out of them =====
/-- a private method of a class that the tables say can be made, by its rows of tables_1 -/
def lw_okq (q : MethodName × Nat) : Prop := (q.1.cls ≠ "java/lang/invoke/MethodHandle" ∧ q.1.cls ≠ "java/lang/invoke/VarHandle") ∧ Cond.instantiable q.1.cls q.2 ∈ tables_1 ∧ Cond.privateMethod q.1 ∈ tables_1 ∧ Cond.instanceMethod q.1 ∈ tables_1
theorem lw_p0 : lw_okq (⟨"MatchingGraph$Input", "stateAt", "(III)I"⟩, 2) := ⟨⟨by decide +kernel, by decide +kernel⟩, List.mem_of_getElem? (i := 68) (by decide +kernel), List.mem_of_getElem? (i := 197) (by decide +kernel), List.mem_of_getElem? (i := 198) (by decide +kernel)⟩
theorem lw_p1 : lw_okq (⟨"MatchingGraph", "augmentLowest", "()Z"⟩, 7) := ⟨⟨by decide +kernel, by decide +kernel⟩, List.mem_of_getElem? (i := 20) (by decide +kernel), List.mem_of_getElem? (i := 219) (by decide +kernel), List.mem_of_getElem? (i := 220) (by decide +kernel)⟩
theorem lw_p2 : lw_okq (⟨"MatchingGraph", "augmentFrom", "(I)I"⟩, 7) := ⟨⟨by decide +kernel, by decide +kernel⟩, List.mem_of_getElem? (i := 20) (by decide +kernel), List.mem_of_getElem? (i := 227) (by decide +kernel), List.mem_of_getElem? (i := 228) (by decide +kernel)⟩
theorem lw_p3 : lw_okq (⟨"MatchingGraph$Paths", "numberPairs", "()V"⟩, 7) := ⟨⟨by decide +kernel, by decide +kernel⟩, List.mem_of_getElem? (i := 105) (by decide +kernel), List.mem_of_getElem? (i := 235) (by decide +kernel), List.mem_of_getElem? (i := 236) (by decide +kernel)⟩
theorem lw_p4 : lw_okq (⟨"MatchingGraph$Paths", "followWay", "(III)Z"⟩, 7) := ⟨⟨by decide +kernel, by decide +kernel⟩, List.mem_of_getElem? (i := 105) (by decide +kernel), List.mem_of_getElem? (i := 244) (by decide +kernel), List.mem_of_getElem? (i := 245) (by decide +kernel)⟩
theorem lw_p5 : lw_okq (⟨"MatchingGraph$Paths", "followWayTo", "(IIII)Z"⟩, 7) := ⟨⟨by decide +kernel, by decide +kernel⟩, List.mem_of_getElem? (i := 105) (by decide +kernel), List.mem_of_getElem? (i := 252) (by decide +kernel), List.mem_of_getElem? (i := 253) (by decide +kernel)⟩
theorem lw_p6 : lw_okq (⟨"MatchingGraph$Maxima", "learn", "()V"⟩, 6) := ⟨⟨by decide +kernel, by decide +kernel⟩, List.mem_of_getElem? (i := 136) (by decide +kernel), List.mem_of_getElem? (i := 272) (by decide +kernel), List.mem_of_getElem? (i := 273) (by decide +kernel)⟩
theorem lw_p7 : lw_okq (⟨"MatchingGraph$Maxima", "findOut", "(II)V"⟩, 6) := ⟨⟨by decide +kernel, by decide +kernel⟩, List.mem_of_getElem? (i := 136) (by decide +kernel), List.mem_of_getElem? (i := 281) (by decide +kernel), List.mem_of_getElem? (i := 282) (by decide +kernel)⟩
theorem lw_p8 : lw_okq (⟨"MatchingGraph$Maxima", "findFirst", "()V"⟩, 6) := ⟨⟨by decide +kernel, by decide +kernel⟩, List.mem_of_getElem? (i := 136) (by decide +kernel), List.mem_of_getElem? (i := 285) (by decide +kernel), List.mem_of_getElem? (i := 286) (by decide +kernel)⟩
theorem lw_p9 : lw_okq (⟨"MatchingGraph$Maxima", "leastMate", "(II)I"⟩, 6) := ⟨⟨by decide +kernel, by decide +kernel⟩, List.mem_of_getElem? (i := 136) (by decide +kernel), List.mem_of_getElem? (i := 293) (by decide +kernel), List.mem_of_getElem? (i := 294) (by decide +kernel)⟩
theorem lw_p10 : lw_okq (⟨"MatchingGraph$Graph", "besides", "(I)I"⟩, 3) := ⟨⟨by decide +kernel, by decide +kernel⟩, List.mem_of_getElem? (i := 28) (by decide +kernel), List.mem_of_getElem? (i := 315) (by decide +kernel), List.mem_of_getElem? (i := 316) (by decide +kernel)⟩
theorem lw_p11 : lw_okq (⟨"MatchingGraph", "isProof", "(II)Z"⟩, 7) := ⟨⟨by decide +kernel, by decide +kernel⟩, List.mem_of_getElem? (i := 20) (by decide +kernel), List.mem_of_getElem? (i := 334) (by decide +kernel), List.mem_of_getElem? (i := 335) (by decide +kernel)⟩
theorem lw_p12 : lw_okq (⟨"MatchingGraph", "deficiency", "()I"⟩, 7) := ⟨⟨by decide +kernel, by decide +kernel⟩, List.mem_of_getElem? (i := 20) (by decide +kernel), List.mem_of_getElem? (i := 351) (by decide +kernel), List.mem_of_getElem? (i := 352) (by decide +kernel)⟩
theorem lw_p13 : lw_okq (⟨"java/lang/Throwable", "fillInStackTrace", "(I)Ljava/lang/Throwable;"⟩, 6) := ⟨⟨by decide +kernel, by decide +kernel⟩, List.mem_of_getElem? (i := 433) (by decide +kernel), List.mem_of_getElem? (i := 431) (by decide +kernel), List.mem_of_getElem? (i := 432) (by decide +kernel)⟩
theorem lw_p14 : lw_okq (⟨"MatchingGraph", "mixNode", "(JI)J"⟩, 7) := ⟨⟨by decide +kernel, by decide +kernel⟩, List.mem_of_getElem? (i := 20) (by decide +kernel), List.mem_of_getElem? (i := 467) (by decide +kernel), List.mem_of_getElem? (i := 468) (by decide +kernel)⟩
theorem lw_p15 : lw_okq (⟨"MatchingGraph", "requireNode", "(I)V"⟩, 7) := ⟨⟨by decide +kernel, by decide +kernel⟩, List.mem_of_getElem? (i := 20) (by decide +kernel), List.mem_of_getElem? (i := 475) (by decide +kernel), List.mem_of_getElem? (i := 476) (by decide +kernel)⟩
def lw_privs_1 : List (MethodName × Nat) := [(⟨"MatchingGraph$Input", "stateAt", "(III)I"⟩, 2), (⟨"MatchingGraph", "augmentLowest", "()Z"⟩, 7), (⟨"MatchingGraph", "augmentFrom", "(I)I"⟩, 7), (⟨"MatchingGraph$Paths", "numberPairs", "()V"⟩, 7), (⟨"MatchingGraph$Paths", "followWay", "(III)Z"⟩, 7), (⟨"MatchingGraph$Paths", "followWayTo", "(IIII)Z"⟩, 7), (⟨"MatchingGraph$Maxima", "learn", "()V"⟩, 6), (⟨"MatchingGraph$Maxima", "findOut", "(II)V"⟩, 6), (⟨"MatchingGraph$Maxima", "findFirst", "()V"⟩, 6), (⟨"MatchingGraph$Maxima", "leastMate", "(II)I"⟩, 6), (⟨"MatchingGraph$Graph", "besides", "(I)I"⟩, 3), (⟨"MatchingGraph", "isProof", "(II)Z"⟩, 7), (⟨"MatchingGraph", "deficiency", "()I"⟩, 7), (⟨"java/lang/Throwable", "fillInStackTrace", "(I)Ljava/lang/Throwable;"⟩, 6), (⟨"MatchingGraph", "mixNode", "(JI)J"⟩, 7), (⟨"MatchingGraph", "requireNode", "(I)V"⟩, 7)]
theorem lw_r1 : ∀ q ∈ lw_privs_1, lw_okq q := List.forall_mem_cons.mpr ⟨lw_p0, List.forall_mem_cons.mpr ⟨lw_p1, List.forall_mem_cons.mpr ⟨lw_p2, List.forall_mem_cons.mpr ⟨lw_p3, List.forall_mem_cons.mpr ⟨lw_p4, List.forall_mem_cons.mpr ⟨lw_p5, List.forall_mem_cons.mpr ⟨lw_p6, List.forall_mem_cons.mpr ⟨lw_p7, List.forall_mem_cons.mpr ⟨lw_p8, List.forall_mem_cons.mpr ⟨lw_p9, List.forall_mem_cons.mpr ⟨lw_p10, List.forall_mem_cons.mpr ⟨lw_p11, List.forall_mem_cons.mpr ⟨lw_p12, List.forall_mem_cons.mpr ⟨lw_p13, List.forall_mem_cons.mpr ⟨lw_p14, List.forall_mem_cons.mpr ⟨lw_p15, fun _ h => absurd h List.not_mem_nil⟩⟩⟩⟩⟩⟩⟩⟩⟩⟩⟩⟩⟩⟩⟩⟩
theorem lw_p16 : lw_okq (⟨"MatchingGraph", "partOf", "(I)I"⟩, 7) := ⟨⟨by decide +kernel, by decide +kernel⟩, List.mem_of_getElem? (i := 20) (by decide +kernel), List.mem_of_getElem? (i := 495) (by decide +kernel), List.mem_of_getElem? (i := 496) (by decide +kernel)⟩
theorem lw_p17 : lw_okq (⟨"MatchingGraph$Paths", "followFrom", "(III)V"⟩, 7) := ⟨⟨by decide +kernel, by decide +kernel⟩, List.mem_of_getElem? (i := 105) (by decide +kernel), List.mem_of_getElem? (i := 518) (by decide +kernel), List.mem_of_getElem? (i := 519) (by decide +kernel)⟩
theorem lw_p18 : lw_okq (⟨"MatchingGraph", "requireExposed", "(I)V"⟩, 7) := ⟨⟨by decide +kernel, by decide +kernel⟩, List.mem_of_getElem? (i := 20) (by decide +kernel), List.mem_of_getElem? (i := 526) (by decide +kernel), List.mem_of_getElem? (i := 527) (by decide +kernel)⟩
theorem lw_p19 : lw_okq (⟨"MatchingGraph", "mixPair", "(JII)J"⟩, 7) := ⟨⟨by decide +kernel, by decide +kernel⟩, List.mem_of_getElem? (i := 20) (by decide +kernel), List.mem_of_getElem? (i := 546) (by decide +kernel), List.mem_of_getElem? (i := 547) (by decide +kernel)⟩
theorem lw_p20 : lw_okq (⟨"MatchingGraph", "drawDifferences", "(LMatchingGraph$Matching;)V"⟩, 7) := ⟨⟨by decide +kernel, by decide +kernel⟩, List.mem_of_getElem? (i := 20) (by decide +kernel), List.mem_of_getElem? (i := 563) (by decide +kernel), List.mem_of_getElem? (i := 564) (by decide +kernel)⟩
theorem lw_p21 : lw_okq (⟨"MatchingGraph", "mixInput", "(J)J"⟩, 7) := ⟨⟨by decide +kernel, by decide +kernel⟩, List.mem_of_getElem? (i := 20) (by decide +kernel), List.mem_of_getElem? (i := 581) (by decide +kernel), List.mem_of_getElem? (i := 582) (by decide +kernel)⟩
theorem lw_p22 : lw_okq (⟨"MatchingGraph", "addRead", "(IIZ)I"⟩, 7) := ⟨⟨by decide +kernel, by decide +kernel⟩, List.mem_of_getElem? (i := 20) (by decide +kernel), List.mem_of_getElem? (i := 646) (by decide +kernel), List.mem_of_getElem? (i := 647) (by decide +kernel)⟩
theorem lw_p23 : lw_okq (⟨"MatchingGraphModel", "clearAll", "()V"⟩, 19) := ⟨⟨by decide +kernel, by decide +kernel⟩, List.mem_of_getElem? (i := 749) (by decide +kernel), List.mem_of_getElem? (i := 755) (by decide +kernel), List.mem_of_getElem? (i := 756) (by decide +kernel)⟩
theorem lw_p24 : lw_okq (⟨"MatchingGraphModel", "isNode", "(I)Z"⟩, 19) := ⟨⟨by decide +kernel, by decide +kernel⟩, List.mem_of_getElem? (i := 749) (by decide +kernel), List.mem_of_getElem? (i := 832) (by decide +kernel), List.mem_of_getElem? (i := 833) (by decide +kernel)⟩
theorem lw_p25 : lw_okq (⟨"MatchingGraphModel", "keep", "()V"⟩, 19) := ⟨⟨by decide +kernel, by decide +kernel⟩, List.mem_of_getElem? (i := 749) (by decide +kernel), List.mem_of_getElem? (i := 836) (by decide +kernel), List.mem_of_getElem? (i := 837) (by decide +kernel)⟩
theorem lw_p26 : lw_okq (⟨"MatchingGraphModel", "flip", "(II)V"⟩, 19) := ⟨⟨by decide +kernel, by decide +kernel⟩, List.mem_of_getElem? (i := 749) (by decide +kernel), List.mem_of_getElem? (i := 843) (by decide +kernel), List.mem_of_getElem? (i := 844) (by decide +kernel)⟩
theorem lw_p27 : lw_okq (⟨"MatchingGraphModel", "part", "(I)V"⟩, 19) := ⟨⟨by decide +kernel, by decide +kernel⟩, List.mem_of_getElem? (i := 749) (by decide +kernel), List.mem_of_getElem? (i := 847) (by decide +kernel), List.mem_of_getElem? (i := 848) (by decide +kernel)⟩
theorem lw_p28 : lw_okq (⟨"MatchingGraphModel", "rightLength", "()I"⟩, 19) := ⟨⟨by decide +kernel, by decide +kernel⟩, List.mem_of_getElem? (i := 749) (by decide +kernel), List.mem_of_getElem? (i := 863) (by decide +kernel), List.mem_of_getElem? (i := 864) (by decide +kernel)⟩
theorem lw_p29 : lw_okq (⟨"MatchingGraphModel", "takes", "(I)Z"⟩, 19) := ⟨⟨by decide +kernel, by decide +kernel⟩, List.mem_of_getElem? (i := 749) (by decide +kernel), List.mem_of_getElem? (i := 867) (by decide +kernel), List.mem_of_getElem? (i := 868) (by decide +kernel)⟩
theorem lw_p30 : lw_okq (⟨"MatchingGraphModel", "pair", "(II)V"⟩, 19) := ⟨⟨by decide +kernel, by decide +kernel⟩, List.mem_of_getElem? (i := 749) (by decide +kernel), List.mem_of_getElem? (i := 875) (by decide +kernel), List.mem_of_getElem? (i := 876) (by decide +kernel)⟩
theorem lw_p31 : lw_okq (⟨"MatchingGraphModel", "size", "()I"⟩, 19) := ⟨⟨by decide +kernel, by decide +kernel⟩, List.mem_of_getElem? (i := 749) (by decide +kernel), List.mem_of_getElem? (i := 883) (by decide +kernel), List.mem_of_getElem? (i := 884) (by decide +kernel)⟩
def lw_privs_2 : List (MethodName × Nat) := [(⟨"MatchingGraph", "partOf", "(I)I"⟩, 7), (⟨"MatchingGraph$Paths", "followFrom", "(III)V"⟩, 7), (⟨"MatchingGraph", "requireExposed", "(I)V"⟩, 7), (⟨"MatchingGraph", "mixPair", "(JII)J"⟩, 7), (⟨"MatchingGraph", "drawDifferences", "(LMatchingGraph$Matching;)V"⟩, 7), (⟨"MatchingGraph", "mixInput", "(J)J"⟩, 7), (⟨"MatchingGraph", "addRead", "(IIZ)I"⟩, 7), (⟨"MatchingGraphModel", "clearAll", "()V"⟩, 19), (⟨"MatchingGraphModel", "isNode", "(I)Z"⟩, 19), (⟨"MatchingGraphModel", "keep", "()V"⟩, 19), (⟨"MatchingGraphModel", "flip", "(II)V"⟩, 19), (⟨"MatchingGraphModel", "part", "(I)V"⟩, 19), (⟨"MatchingGraphModel", "rightLength", "()I"⟩, 19), (⟨"MatchingGraphModel", "takes", "(I)Z"⟩, 19), (⟨"MatchingGraphModel", "pair", "(II)V"⟩, 19), (⟨"MatchingGraphModel", "size", "()I"⟩, 19)]
theorem lw_r2 : ∀ q ∈ lw_privs_2, lw_okq q := List.forall_mem_cons.mpr ⟨lw_p16, List.forall_mem_cons.mpr ⟨lw_p17, List.forall_mem_cons.mpr ⟨lw_p18, List.forall_mem_cons.mpr ⟨lw_p19, List.forall_mem_cons.mpr ⟨lw_p20, List.forall_mem_cons.mpr ⟨lw_p21, List.forall_mem_cons.mpr ⟨lw_p22, List.forall_mem_cons.mpr ⟨lw_p23, List.forall_mem_cons.mpr ⟨lw_p24, List.forall_mem_cons.mpr ⟨lw_p25, List.forall_mem_cons.mpr ⟨lw_p26, List.forall_mem_cons.mpr ⟨lw_p27, List.forall_mem_cons.mpr ⟨lw_p28, List.forall_mem_cons.mpr ⟨lw_p29, List.forall_mem_cons.mpr ⟨lw_p30, List.forall_mem_cons.mpr ⟨lw_p31, fun _ h => absurd h List.not_mem_nil⟩⟩⟩⟩⟩⟩⟩⟩⟩⟩⟩⟩⟩⟩⟩⟩
theorem lw_p32 : lw_okq (⟨"MatchingGraphModel", "exposedFault", "(I)I"⟩, 19) := ⟨⟨by decide +kernel, by decide +kernel⟩, List.mem_of_getElem? (i := 749) (by decide +kernel), List.mem_of_getElem? (i := 895) (by decide +kernel), List.mem_of_getElem? (i := 896) (by decide +kernel)⟩
theorem lw_p33 : lw_okq (⟨"MatchingGraphModel", "augmentFrom", "(I)I"⟩, 19) := ⟨⟨by decide +kernel, by decide +kernel⟩, List.mem_of_getElem? (i := 749) (by decide +kernel), List.mem_of_getElem? (i := 899) (by decide +kernel), List.mem_of_getElem? (i := 900) (by decide +kernel)⟩
theorem lw_p34 : lw_okq (⟨"MatchingGraphModel", "layWay", "(I)I"⟩, 19) := ⟨⟨by decide +kernel, by decide +kernel⟩, List.mem_of_getElem? (i := 749) (by decide +kernel), List.mem_of_getElem? (i := 903) (by decide +kernel), List.mem_of_getElem? (i := 904) (by decide +kernel)⟩
theorem lw_p35 : lw_okq (⟨"MatchingGraphModel", "goThrough", "(II)Z"⟩, 19) := ⟨⟨by decide +kernel, by decide +kernel⟩, List.mem_of_getElem? (i := 749) (by decide +kernel), List.mem_of_getElem? (i := 907) (by decide +kernel), List.mem_of_getElem? (i := 908) (by decide +kernel)⟩
theorem lw_p36 : lw_okq (⟨"MatchingGraphModel", "step", "(III)I"⟩, 19) := ⟨⟨by decide +kernel, by decide +kernel⟩, List.mem_of_getElem? (i := 749) (by decide +kernel), List.mem_of_getElem? (i := 911) (by decide +kernel), List.mem_of_getElem? (i := 912) (by decide +kernel)⟩
theorem lw_p37 : lw_okq (⟨"MatchingGraphModel", "lowestWithWay", "()I"⟩, 19) := ⟨⟨by decide +kernel, by decide +kernel⟩, List.mem_of_getElem? (i := 749) (by decide +kernel), List.mem_of_getElem? (i := 919) (by decide +kernel), List.mem_of_getElem? (i := 920) (by decide +kernel)⟩
theorem lw_p38 : lw_okq (⟨"MatchingGraphModel", "laySets", "()V"⟩, 19) := ⟨⟨by decide +kernel, by decide +kernel⟩, List.mem_of_getElem? (i := 749) (by decide +kernel), List.mem_of_getElem? (i := 927) (by decide +kernel), List.mem_of_getElem? (i := 928) (by decide +kernel)⟩
theorem lw_p39 : lw_okq (⟨"MatchingGraphModel", "all", "()I"⟩, 19) := ⟨⟨by decide +kernel, by decide +kernel⟩, List.mem_of_getElem? (i := 749) (by decide +kernel), List.mem_of_getElem? (i := 931) (by decide +kernel), List.mem_of_getElem? (i := 932) (by decide +kernel)⟩
theorem lw_p40 : lw_okq (⟨"MatchingGraphModel", "note", "(III)V"⟩, 19) := ⟨⟨by decide +kernel, by decide +kernel⟩, List.mem_of_getElem? (i := 749) (by decide +kernel), List.mem_of_getElem? (i := 935) (by decide +kernel), List.mem_of_getElem? (i := 936) (by decide +kernel)⟩
theorem lw_p41 : lw_okq (⟨"MatchingGraphModel", "layFirst", "()V"⟩, 19) := ⟨⟨by decide +kernel, by decide +kernel⟩, List.mem_of_getElem? (i := 749) (by decide +kernel), List.mem_of_getElem? (i := 939) (by decide +kernel), List.mem_of_getElem? (i := 940) (by decide +kernel)⟩
theorem lw_p42 : lw_okq (⟨"MatchingGraphModel", "layReach", "(I)V"⟩, 19) := ⟨⟨by decide +kernel, by decide +kernel⟩, List.mem_of_getElem? (i := 749) (by decide +kernel), List.mem_of_getElem? (i := 959) (by decide +kernel), List.mem_of_getElem? (i := 960) (by decide +kernel)⟩
theorem lw_p43 : lw_okq (⟨"MatchingGraphModel", "oddCycleNow", "()I"⟩, 19) := ⟨⟨by decide +kernel, by decide +kernel⟩, List.mem_of_getElem? (i := 749) (by decide +kernel), List.mem_of_getElem? (i := 967) (by decide +kernel), List.mem_of_getElem? (i := 968) (by decide +kernel)⟩
theorem lw_p44 : lw_okq (⟨"MatchingGraphModel", "oddWalk", "(I)I"⟩, 19) := ⟨⟨by decide +kernel, by decide +kernel⟩, List.mem_of_getElem? (i := 749) (by decide +kernel), List.mem_of_getElem? (i := 971) (by decide +kernel), List.mem_of_getElem? (i := 972) (by decide +kernel)⟩
theorem lw_p45 : lw_okq (⟨"MatchingGraphModel", "proofNow", "()I"⟩, 19) := ⟨⟨by decide +kernel, by decide +kernel⟩, List.mem_of_getElem? (i := 749) (by decide +kernel), List.mem_of_getElem? (i := 983) (by decide +kernel), List.mem_of_getElem? (i := 984) (by decide +kernel)⟩
theorem lw_p46 : lw_okq (⟨"MatchingGraphModel", "componentsOf", "(IZ)I"⟩, 19) := ⟨⟨by decide +kernel, by decide +kernel⟩, List.mem_of_getElem? (i := 749) (by decide +kernel), List.mem_of_getElem? (i := 990) (by decide +kernel), List.mem_of_getElem? (i := 991) (by decide +kernel)⟩
theorem lw_p47 : lw_okq (⟨"MatchingGraphModel", "componentOf", "(II)I"⟩, 19) := ⟨⟨by decide +kernel, by decide +kernel⟩, List.mem_of_getElem? (i := 749) (by decide +kernel), List.mem_of_getElem? (i := 994) (by decide +kernel), List.mem_of_getElem? (i := 995) (by decide +kernel)⟩
def lw_privs_3 : List (MethodName × Nat) := [(⟨"MatchingGraphModel", "exposedFault", "(I)I"⟩, 19), (⟨"MatchingGraphModel", "augmentFrom", "(I)I"⟩, 19), (⟨"MatchingGraphModel", "layWay", "(I)I"⟩, 19), (⟨"MatchingGraphModel", "goThrough", "(II)Z"⟩, 19), (⟨"MatchingGraphModel", "step", "(III)I"⟩, 19), (⟨"MatchingGraphModel", "lowestWithWay", "()I"⟩, 19), (⟨"MatchingGraphModel", "laySets", "()V"⟩, 19), (⟨"MatchingGraphModel", "all", "()I"⟩, 19), (⟨"MatchingGraphModel", "note", "(III)V"⟩, 19), (⟨"MatchingGraphModel", "layFirst", "()V"⟩, 19), (⟨"MatchingGraphModel", "layReach", "(I)V"⟩, 19), (⟨"MatchingGraphModel", "oddCycleNow", "()I"⟩, 19), (⟨"MatchingGraphModel", "oddWalk", "(I)I"⟩, 19), (⟨"MatchingGraphModel", "proofNow", "()I"⟩, 19), (⟨"MatchingGraphModel", "componentsOf", "(IZ)I"⟩, 19), (⟨"MatchingGraphModel", "componentOf", "(II)I"⟩, 19)]
theorem lw_r3 : ∀ q ∈ lw_privs_3, lw_okq q := List.forall_mem_cons.mpr ⟨lw_p32, List.forall_mem_cons.mpr ⟨lw_p33, List.forall_mem_cons.mpr ⟨lw_p34, List.forall_mem_cons.mpr ⟨lw_p35, List.forall_mem_cons.mpr ⟨lw_p36, List.forall_mem_cons.mpr ⟨lw_p37, List.forall_mem_cons.mpr ⟨lw_p38, List.forall_mem_cons.mpr ⟨lw_p39, List.forall_mem_cons.mpr ⟨lw_p40, List.forall_mem_cons.mpr ⟨lw_p41, List.forall_mem_cons.mpr ⟨lw_p42, List.forall_mem_cons.mpr ⟨lw_p43, List.forall_mem_cons.mpr ⟨lw_p44, List.forall_mem_cons.mpr ⟨lw_p45, List.forall_mem_cons.mpr ⟨lw_p46, List.forall_mem_cons.mpr ⟨lw_p47, fun _ h => absurd h List.not_mem_nil⟩⟩⟩⟩⟩⟩⟩⟩⟩⟩⟩⟩⟩⟩⟩⟩
theorem lw_p48 : lw_okq (⟨"MatchingGraphModel", "nodeNow", "(II)I"⟩, 19) := ⟨⟨by decide +kernel, by decide +kernel⟩, List.mem_of_getElem? (i := 749) (by decide +kernel), List.mem_of_getElem? (i := 1010) (by decide +kernel), List.mem_of_getElem? (i := 1011) (by decide +kernel)⟩
theorem lw_p49 : lw_okq (⟨"MatchingGraphModel", "partOf", "(I)I"⟩, 19) := ⟨⟨by decide +kernel, by decide +kernel⟩, List.mem_of_getElem? (i := 749) (by decide +kernel), List.mem_of_getElem? (i := 1014) (by decide +kernel), List.mem_of_getElem? (i := 1015) (by decide +kernel)⟩
theorem lw_p50 : lw_okq (⟨"MatchingGraphModel", "exposing", "(I)I"⟩, 19) := ⟨⟨by decide +kernel, by decide +kernel⟩, List.mem_of_getElem? (i := 749) (by decide +kernel), List.mem_of_getElem? (i := 1018) (by decide +kernel), List.mem_of_getElem? (i := 1019) (by decide +kernel)⟩
theorem lw_p51 : lw_okq (⟨"MatchingGraphModel", "lowest", "(I)I"⟩, 19) := ⟨⟨by decide +kernel, by decide +kernel⟩, List.mem_of_getElem? (i := 749) (by decide +kernel), List.mem_of_getElem? (i := 1022) (by decide +kernel), List.mem_of_getElem? (i := 1023) (by decide +kernel)⟩
theorem lw_p52 : lw_okq (⟨"MatchingGraphModel", "edgeNow", "(III)I"⟩, 19) := ⟨⟨by decide +kernel, by decide +kernel⟩, List.mem_of_getElem? (i := 749) (by decide +kernel), List.mem_of_getElem? (i := 1030) (by decide +kernel), List.mem_of_getElem? (i := 1031) (by decide +kernel)⟩
theorem lw_p53 : lw_okq (⟨"MatchingGraphModel", "using", "(II)I"⟩, 19) := ⟨⟨by decide +kernel, by decide +kernel⟩, List.mem_of_getElem? (i := 749) (by decide +kernel), List.mem_of_getElem? (i := 1034) (by decide +kernel), List.mem_of_getElem? (i := 1035) (by decide +kernel)⟩
theorem lw_p54 : lw_okq (⟨"MatchingGraphModel", "counted", "(I)I"⟩, 19) := ⟨⟨by decide +kernel, by decide +kernel⟩, List.mem_of_getElem? (i := 749) (by decide +kernel), List.mem_of_getElem? (i := 1042) (by decide +kernel), List.mem_of_getElem? (i := 1043) (by decide +kernel)⟩
theorem lw_p55 : lw_okq (⟨"MatchingGraphModel", "edgeCount", "()I"⟩, 19) := ⟨⟨by decide +kernel, by decide +kernel⟩, List.mem_of_getElem? (i := 749) (by decide +kernel), List.mem_of_getElem? (i := 1046) (by decide +kernel), List.mem_of_getElem? (i := 1047) (by decide +kernel)⟩
theorem lw_p56 : lw_okq (⟨"MatchingGraphModel", "edgesIn", "(I)I"⟩, 19) := ⟨⟨by decide +kernel, by decide +kernel⟩, List.mem_of_getElem? (i := 749) (by decide +kernel), List.mem_of_getElem? (i := 1050) (by decide +kernel), List.mem_of_getElem? (i := 1051) (by decide +kernel)⟩
theorem lw_p57 : lw_okq (⟨"MatchingGraphModel", "isCritical", "()Z"⟩, 19) := ⟨⟨by decide +kernel, by decide +kernel⟩, List.mem_of_getElem? (i := 749) (by decide +kernel), List.mem_of_getElem? (i := 1054) (by decide +kernel), List.mem_of_getElem? (i := 1055) (by decide +kernel)⟩
theorem lw_p58 : lw_okq (⟨"MatchingGraphModel", "differenceNow", "(I)I"⟩, 19) := ⟨⟨by decide +kernel, by decide +kernel⟩, List.mem_of_getElem? (i := 749) (by decide +kernel), List.mem_of_getElem? (i := 1062) (by decide +kernel), List.mem_of_getElem? (i := 1063) (by decide +kernel)⟩
theorem lw_p59 : lw_okq (⟨"MatchingGraphModel", "differs", "(I)Z"⟩, 19) := ⟨⟨by decide +kernel, by decide +kernel⟩, List.mem_of_getElem? (i := 749) (by decide +kernel), List.mem_of_getElem? (i := 1066) (by decide +kernel), List.mem_of_getElem? (i := 1067) (by decide +kernel)⟩
theorem lw_p60 : lw_okq (⟨"MatchingGraphModel", "joined", "(I)I"⟩, 19) := ⟨⟨by decide +kernel, by decide +kernel⟩, List.mem_of_getElem? (i := 749) (by decide +kernel), List.mem_of_getElem? (i := 1070) (by decide +kernel), List.mem_of_getElem? (i := 1071) (by decide +kernel)⟩
theorem lw_p61 : lw_okq (⟨"MatchingGraphModel", "isRing", "(I)Z"⟩, 19) := ⟨⟨by decide +kernel, by decide +kernel⟩, List.mem_of_getElem? (i := 749) (by decide +kernel), List.mem_of_getElem? (i := 1074) (by decide +kernel), List.mem_of_getElem? (i := 1075) (by decide +kernel)⟩
theorem lw_p62 : lw_okq (⟨"MatchingGraphModel", "mix", "(J)V"⟩, 19) := ⟨⟨by decide +kernel, by decide +kernel⟩, List.mem_of_getElem? (i := 749) (by decide +kernel), List.mem_of_getElem? (i := 1087) (by decide +kernel), List.mem_of_getElem? (i := 1088) (by decide +kernel)⟩
theorem lw_p63 : lw_okq (⟨"MatchingGraphModel", "mixNode", "(I)V"⟩, 19) := ⟨⟨by decide +kernel, by decide +kernel⟩, List.mem_of_getElem? (i := 749) (by decide +kernel), List.mem_of_getElem? (i := 1092) (by decide +kernel), List.mem_of_getElem? (i := 1093) (by decide +kernel)⟩
def lw_privs_4 : List (MethodName × Nat) := [(⟨"MatchingGraphModel", "nodeNow", "(II)I"⟩, 19), (⟨"MatchingGraphModel", "partOf", "(I)I"⟩, 19), (⟨"MatchingGraphModel", "exposing", "(I)I"⟩, 19), (⟨"MatchingGraphModel", "lowest", "(I)I"⟩, 19), (⟨"MatchingGraphModel", "edgeNow", "(III)I"⟩, 19), (⟨"MatchingGraphModel", "using", "(II)I"⟩, 19), (⟨"MatchingGraphModel", "counted", "(I)I"⟩, 19), (⟨"MatchingGraphModel", "edgeCount", "()I"⟩, 19), (⟨"MatchingGraphModel", "edgesIn", "(I)I"⟩, 19), (⟨"MatchingGraphModel", "isCritical", "()Z"⟩, 19), (⟨"MatchingGraphModel", "differenceNow", "(I)I"⟩, 19), (⟨"MatchingGraphModel", "differs", "(I)Z"⟩, 19), (⟨"MatchingGraphModel", "joined", "(I)I"⟩, 19), (⟨"MatchingGraphModel", "isRing", "(I)Z"⟩, 19), (⟨"MatchingGraphModel", "mix", "(J)V"⟩, 19), (⟨"MatchingGraphModel", "mixNode", "(I)V"⟩, 19)]
theorem lw_r4 : ∀ q ∈ lw_privs_4, lw_okq q := List.forall_mem_cons.mpr ⟨lw_p48, List.forall_mem_cons.mpr ⟨lw_p49, List.forall_mem_cons.mpr ⟨lw_p50, List.forall_mem_cons.mpr ⟨lw_p51, List.forall_mem_cons.mpr ⟨lw_p52, List.forall_mem_cons.mpr ⟨lw_p53, List.forall_mem_cons.mpr ⟨lw_p54, List.forall_mem_cons.mpr ⟨lw_p55, List.forall_mem_cons.mpr ⟨lw_p56, List.forall_mem_cons.mpr ⟨lw_p57, List.forall_mem_cons.mpr ⟨lw_p58, List.forall_mem_cons.mpr ⟨lw_p59, List.forall_mem_cons.mpr ⟨lw_p60, List.forall_mem_cons.mpr ⟨lw_p61, List.forall_mem_cons.mpr ⟨lw_p62, List.forall_mem_cons.mpr ⟨lw_p63, fun _ h => absurd h List.not_mem_nil⟩⟩⟩⟩⟩⟩⟩⟩⟩⟩⟩⟩⟩⟩⟩⟩
theorem lw_p64 : lw_okq (⟨"MatchingGraphModel", "mixPairs", "()V"⟩, 19) := ⟨⟨by decide +kernel, by decide +kernel⟩, List.mem_of_getElem? (i := 749) (by decide +kernel), List.mem_of_getElem? (i := 1096) (by decide +kernel), List.mem_of_getElem? (i := 1097) (by decide +kernel)⟩
def lw_privs_5 : List (MethodName × Nat) := [(⟨"MatchingGraphModel", "mixPairs", "()V"⟩, 19)]
theorem lw_r5 : ∀ q ∈ lw_privs_5, lw_okq q := List.forall_mem_cons.mpr ⟨lw_p64, fun _ h => absurd h List.not_mem_nil⟩
def lw_privs : List (MethodName × Nat) := lw_privs_1 ++ (lw_privs_2 ++ (lw_privs_3 ++ (lw_privs_4 ++ (lw_privs_5))))
def lw_tbl : List Cond := k2_sels lw_privs ++ tables_1
theorem lw_privs_ok : ∀ q ∈ lw_privs, lw_okq q := by
  show ∀ q ∈ lw_privs_1 ++ (lw_privs_2 ++ (lw_privs_3 ++ (lw_privs_4 ++ (lw_privs_5)))), lw_okq q
  exact List.forall_mem_append.mpr ⟨lw_r1, List.forall_mem_append.mpr ⟨lw_r2, List.forall_mem_append.mpr ⟨lw_r3, List.forall_mem_append.mpr ⟨lw_r4, lw_r5⟩⟩⟩⟩
/-- the streams that the claim lets the run draw from -/
abbrev lw_cs : List Choice := [Jvm.Choice.named "NaN.bits"]
theorem lw_bits : nanBits ∈ lw_cs := by first | decide | exact List.mem_cons_self | simp [lw_cs, nanBits]
-- ===== end of PART A; then your names; then what follows =====
end
section
/-! ===== BEGIN words of one list among another's, by their places ===== -/
theorem goodIn_r {big : List Cond} (ws : List Cond) (ps : List Nat) (hp : ws = ps.filterMap (fun i => big[i]?)) (h : ws.all goodWord = true) : GoodIn big ws := by
  intro w hw
  have h1 := List.all_eq_true.mp h w hw
  rw [hp] at hw
  obtain ⟨i, -, hi⟩ := List.mem_filterMap.mp hw
  have hm : w ∈ big := by first | exact List.mem_of_getElem? hi | exact List.getElem?_mem hi
  exact ⟨hm, good_of_word h1⟩
theorem goodIn_app {big a b : List Cond} (ha : GoodIn big a) (hb : GoodIn big b) : GoodIn big (a ++ b) := fun w h => (List.mem_append.mp h).elim (ha w) (hb w)
theorem goodIn_ca {big a b : List Cond} {c : Cond} (ha : GoodIn big (c :: a)) (hb : GoodIn big b) : GoodIn big (c :: (a ++ b)) := fun w h => (List.mem_cons.mp h).elim (fun e => ha w (List.mem_cons.mpr (Or.inl e))) (fun h => (List.mem_append.mp h).elim (fun h => ha w (List.mem_cons.mpr (Or.inr h))) (hb w))
theorem goodIn_sub {big ws : List Cond} (hm : ∀ w ∈ ws, w ∈ big) (h : ws.all goodWord = true) : GoodIn big ws := fun w hw => ⟨hm w hw, good_of_word (List.all_eq_true.mp h w hw)⟩
/-! ===== END ===== -/

/-! ===== BEGIN new T[n][m]: the outer array a place, the inner ones among the pooled ===== -/
/-- f, but v at every address of l -/
def vr_up {α : Type} (f : Nat → α) (l : List Nat) (v : α) : Nat → α := fun a => if a ∈ l then v else f a
theorem vr_up_in {α : Type} {f : Nat → α} {l : List Nat} {v : α} {a : Nat} (h : a ∈ l) : vr_up f l v a = v := if_pos h
theorem vr_up_ne {α : Type} {f : Nat → α} {l : List Nat} {v : α} {a : Nat} (h : a ∉ l) : vr_up f l v a = f a := if_neg h
theorem vr_rows {L l : List Nat} {f : Nat → va_E} {e : va_E} (h : ∀ a, a ∈ l → a ∉ L) : va_pl L f ++ l.map (fun a => (a, e)) = va_pl (L ++ l) (vr_up f l e) := by
  unfold va_pl
  rw [List.map_append]
  congr 1
  · apply List.map_congr_left
    intro a ha
    rw [vr_up_ne (fun q => h a q ha)]
  · apply List.map_congr_left
    intro a ha
    rw [vr_up_in ha]
theorem vr_lay {X rows : va_W} {x : Nat × va_E} {pl : va_W} {D : va_G} {cl : List vw_C} {H : Heap} (hP : va_P D cl (((X ++ pl) ++ [x]) ++ rows) H) : va_P D cl ((X ++ [x]) ++ (pl ++ rows)) H := by
  rw [List.append_assoc (X ++ pl)] at hP
  have h := va_P.swap hP
  rw [← List.append_assoc X] at h
  have h2 := va_P.swap h
  rw [List.append_assoc (X ++ [x])] at h2
  exact h2
theorem vr_layD {X rows : va_W} {x : Nat × va_E} {pl : va_W} {A : Nat → Prop} (hD : va_D A (((X ++ pl) ++ [x]) ++ rows)) : va_D A ((X ++ [x]) ++ (pl ++ rows)) := by
  rw [List.append_assoc (X ++ pl)] at hD
  have h := va_D.swap hD
  rw [← List.append_assoc X] at h
  have h2 := va_D.swap h
  rw [List.append_assoc (X ++ [x])] at h2
  exact h2
theorem vr_outer (c : ClassId) (N h0 : Nat) : ∀ i : Nat, Jvm.Free.Multi.outerC c N h0 i = arrV c N (fun j => va_rf (if j < i then some (h0 + 1 + j) else none))
  | 0 => by
    show ({ cls := c, slots := Array.replicate N .null, vm := .none } : Cell) = _
    rw [arrV_new]
    refine congrArg (arrV c N) (funext fun j => ?_)
    simp [va_rf]
  | i + 1 => by
    show (Jvm.Free.Multi.outerC c N h0 i).setSlot i (.ref (h0 + 1 + i)) = _
    rw [vr_outer c N h0 i, arrV_store]
    refine congrArg (arrV c N) (funext fun j => ?_)
    by_cases e : j = i
    · subst e
      simp [updV, va_rf]
    · by_cases h : j < i
      · simp [updV, e, h, Nat.lt_succ_of_lt h]
      · simp [updV, e, h, show ¬ j < i + 1 by omega]
/-- (ours: the printed names use va_AOA, which no file of the kit defines) -/
def va_AOA (ty : FieldType) (U : State) : Prop := (Cond.arrayOver (.array ty)).before #[] U = true
theorem va_AOA.use {ty : FieldType} {A : Array Value} {U : State} (h : va_AOA ty U) : (Cond.arrayOver (.array ty)).before A U = true := h
theorem va_AOA.of {ty : FieldType} {A : Array Value} {U : State} (h : (Cond.arrayOver (.array ty)).before A U = true) : va_AOA ty U := h
section VGM
variable {p : Program} {l : Launch} {e : Env} {R : Room} {s : State} {m : MethodId} {args : Array Value} {below : List Frame} {meth : Method} {c : Code} {H : Heap} {locs : List Loc} {cells slots : Nat} {Q : State → Prop}
variable {cc : ByteArray} {pc : Nat} {ls : Array Slot} {rest : List Value} {D : va_G} {cl : List vw_C} {A : Nat → Prop} {a : Nat} {tys : List (ClassId × FieldType)} {ws : va_W} {H0 : Heap}
theorem va_mna {X : va_W} {L : List Nat} {f : Nat → va_E} {cc : ByteArray} (hexec : p.tables.exec = Jvm.exec) (hb : c.code = cc) {own : String} {index : Nat} {ty : FieldType} {cy : ClassId} (hown : s.vm.findClass own = some m.cls) (hclink : (Cond.classLink own index ("[" ++ (FieldType.array ty).toString)).before args s = true) (hover : va_AOA ty s) (harr : (Cond.arrayClass ty).before args s = true) (hcy : s.vm.findClass (FieldType.array ty).toString = some cy)
    (hK : va_K D cl tys s) (hP : va_P D cl (X ++ va_pl L f) H) (hD : va_D A (X ++ va_pl L f)) (hS : va_S A H0 H locs) (hA : ∀ q, H0.size ≤ q → A q) {n k : Int32} {N' K' : Nat} {z : vp_A} (hn : ¬ n < 0) (hk : ¬ k < 0) (hN : n.toNatClampNeg = N') (hM : k.toNatClampNeg = K')
    (hb1 : N' * 4 ≤ 536870912) (hb2 : K' * componentBytes ty ≤ 536870912) (hb3 : K' ≤ 536870912) (hdf : fits ty (defaultValue ty) = true) (hdd : (defaultValue ty).isDefault = true) (hcells : cells + (1 + N') ≤ R.cells) (hslots : slots + (N' + N' * K') ≤ R.slots) (hz : ∀ c : ClassId, Jvm.Free.Multi.innerC c K' (defaultValue ty) = vp_cell c z) (hdg : decode cc pc = .ok (.multianewarray index 2, 4))
    (kk : ∀ (q : Nat) (r : Nat → Nat) (cA : ClassId) (H1 : Heap), (∀ i j : Nat, i < N' → j < N' → r i = r j → i = j) → (∀ i : Nat, i < N' → r i ∉ L) → va_K D cl (tys ++ [(cA, .array ty)]) s →
      va_P D cl ((X ++ [(q, .inl (cA, N', .inr (.inr (.inr (.inr (fun i => if i < N' then some (r i) else none))))))]) ++ va_pl (L ++ (List.range N').map r) (vr_up f ((List.range N').map r) (.inl (cy, z)))) H1 → va_D A ((X ++ [(q, .inl (cA, N', .inr (.inr (.inr (.inr (fun i => if i < N' then some (r i) else none))))))]) ++ va_pl (L ++ (List.range N').map r) (vr_up f ((List.range N').map r) (.inl (cy, z)))) → va_S A H0 H1 locs →
      W p l e R s m args below meth c H1 locs (cells + 1 + N') (slots + N' + N' * K') Q (F0 m (pc + 4) ls (.ref q :: rest))) : W p l e R s m args below meth c H locs cells slots Q (F0 m pc ls (.int k :: .int n :: rest)) := by
  subst hN
  subst hM
  intro T hT Xs
  obtain ⟨vm₁, cA, comp, -, fA, fC, hO, -, X', step⟩ := Xs.multianewarray2F hexec hown hclink (va_AOA.use hover) harr (g := F0 m pc ls (.int k :: .int n :: rest)) rfl (by rw [hb]; exact hdg) rfl hn hk hb1 hb2 hb3 hdf hdd hcells hslots
  have ec : some cy = some comp := hcy.symm.trans fC
  cases ec
  generalize hF : Jvm.Free.Multi.fill (T.setVm vm₁) cA cy n.toNatClampNeg k.toNatClampNeg (defaultValue ty) n.toNatClampNeg = F at X' step
  have hTh : (T.setVm vm₁).heap = H := hT
  obtain ⟨f1, f2, -, -⟩ := Jvm.Free.Multi.fill_facts (T.setVm vm₁) cA cy n.toNatClampNeg k.toNatClampNeg (defaultValue ty) n.toNatClampNeg
  rw [hF, hTh] at f1 f2
  have hold : ∀ x : Nat, x < H.size → F.heap[x]? = H[x]? := fun x hx => by
    have := Jvm.Free.Multi.fill_old (T.setVm vm₁) cA cy n.toNatClampNeg k.toNatClampNeg (defaultValue ty) (a := x) (by rw [hTh]; exact hx) n.toNatClampNeg
    rw [hF, hTh] at this
    exact this
  have hrow : ∀ j : Nat, j < n.toNatClampNeg → F.heap[H.size + 1 + j]? = some (vp_cell cy z) := fun j hj => by
    have := Jvm.Free.Multi.fill_inner (T.setVm vm₁) cA cy n.toNatClampNeg k.toNatClampNeg (defaultValue ty) n.toNatClampNeg j hj
    rw [hF, hTh, hz] at this
    exact this
  have hout : Jvm.Free.Multi.outerC cA n.toNatClampNeg H.size n.toNatClampNeg = vp_cell cA (n.toNatClampNeg, .inr (.inr (.inr (.inr (fun i => if i < n.toNatClampNeg then some (H.size + 1 + i) else none))))) := by
    rw [vp_cell_q]
    exact vr_outer cA n.toNatClampNeg H.size n.toNatClampNeg
  rw [hout] at f2
  have hlt : ∀ a, a ∈ L → a < H.size := fun a ha => by
    obtain ⟨k9, hk9⟩ := va_pl_get (X := X) (f := f) ha
    exact (hP k9 _ hk9).lt
  have hnl : ∀ i : Nat, i < n.toNatClampNeg → H.size + 1 + i ∉ L := fun i _ h => by
    have := hlt _ h
    omega
  have hnm : ∀ a, a ∈ (List.range n.toNatClampNeg).map (fun i => H.size + 1 + i) → a ∉ L := fun a ha h => by
    obtain ⟨i, -, rfl⟩ := List.mem_map.mp ha
    have := hlt _ h
    omega
  have hP0 : va_P D cl (X ++ va_pl L f) F.heap := hP.kept (fun k9 x hx => hold x.1 ((hP k9 x hx).lt))
  have hP1 : va_P D cl ((X ++ va_pl L f) ++ [(H.size, .inl (cA, n.toNatClampNeg, .inr (.inr (.inr (.inr (fun i => if i < n.toNatClampNeg then some (H.size + 1 + i) else none))))))]) F.heap := hP0.app (fun k9 x hx => by
    have h0 : k9 < 1 := (List.getElem?_eq_some_iff.mp hx).1
    rw [show k9 = 0 by omega] at hx
    cases hx
    exact f2)
  have hP2 : va_P D cl (((X ++ va_pl L f) ++ [(H.size, .inl (cA, n.toNatClampNeg, .inr (.inr (.inr (.inr (fun i => if i < n.toNatClampNeg then some (H.size + 1 + i) else none))))))]) ++ ((List.range n.toNatClampNeg).map (fun i => H.size + 1 + i)).map (fun a => (a, .inl (cy, z)))) F.heap := hP1.app (fun k9 x hx => by
    obtain ⟨a, ha, rfl⟩ := List.mem_map.mp (List.mem_of_getElem? hx)
    obtain ⟨i, hi, rfl⟩ := List.mem_map.mp ha
    exact hrow i (List.mem_range.mp hi))
  have hD2 : va_D A (((X ++ va_pl L f) ++ [(H.size, .inl (cA, n.toNatClampNeg, .inr (.inr (.inr (.inr (fun i => if i < n.toNatClampNeg then some (H.size + 1 + i) else none))))))]) ++ ((List.range n.toNatClampNeg).map (fun i => H.size + 1 + i)).map (fun a => (a, .inl (cy, z)))) := by
    have hD1 := hD.push (e := .inl (cA, n.toNatClampNeg, .inr (.inr (.inr (.inr (fun i => if i < n.toNatClampNeg then some (H.size + 1 + i) else none)))))) hP rfl (hA _ hS.1)
    generalize hW1 : (X ++ va_pl L f) ++ [(H.size, .inl (cA, n.toNatClampNeg, .inr (.inr (.inr (.inr (fun i => if i < n.toNatClampNeg then some (H.size + 1 + i) else none))))))] = W1 at hD1 hP1 ⊢
    have hle : ∀ (k9 : Nat) (x : Nat × va_E), W1[k9]? = some x → x.1 ≤ H.size := fun k9 x hx => by
      rw [← hW1] at hx
      by_cases hl : k9 < (X ++ va_pl L f).length
      · rw [List.getElem?_append_left hl] at hx
        exact Nat.le_of_lt ((hP k9 x hx).lt)
      · rw [List.getElem?_append_right (by omega)] at hx
        have h0 : k9 - (X ++ va_pl L f).length < 1 := (List.getElem?_eq_some_iff.mp hx).1
        rw [show k9 - (X ++ va_pl L f).length = 0 by omega] at hx
        cases hx
        exact Nat.le_refl _
    have hr : ∀ (k9 : Nat) (x : Nat × va_E), (((List.range n.toNatClampNeg).map (fun i => H.size + 1 + i)).map (fun a => ((a, .inl (cy, z)) : Nat × va_E)))[k9]? = some x → x.1 = H.size + 1 + k9 := fun k9 x hx => by
      rw [List.getElem?_map, List.getElem?_map] at hx
      by_cases h9 : k9 < n.toNatClampNeg
      · rw [List.getElem?_range h9] at hx
        cases hx
        rfl
      · have hn0 : (List.range n.toNatClampNeg)[k9]? = none := List.getElem?_eq_none (by rw [List.length_range]; omega)
        rw [hn0] at hx
        cases hx
    refine ⟨fun i j x y hi hj hxy => ?_, fun k9 x hx => ?_⟩
    · by_cases h1 : i < W1.length <;> by_cases h2 : j < W1.length
      · rw [List.getElem?_append_left h1] at hi
        rw [List.getElem?_append_left h2] at hj
        exact hD1.1 i j x y hi hj hxy
      · rw [List.getElem?_append_left h1] at hi
        rw [List.getElem?_append_right (by omega)] at hj
        have := hle _ _ hi
        have := hr _ _ hj
        omega
      · rw [List.getElem?_append_right (by omega)] at hi
        rw [List.getElem?_append_left h2] at hj
        have := hle _ _ hj
        have := hr _ _ hi
        omega
      · rw [List.getElem?_append_right (by omega)] at hi hj
        have := hr _ _ hi
        have := hr _ _ hj
        omega
    · by_cases h1 : k9 < W1.length
      · rw [List.getElem?_append_left h1] at hx
        exact hD1.2 k9 x hx
      · rw [List.getElem?_append_right (by omega)] at hx
        have := hr _ _ hx
        exact hA _ (by have := hS.1; omega)
  have hAr : ArrOfT s cA (.array ty) := fun N9 z9 => by
    obtain ⟨-, k9, hk9, cm9, hkk9⟩ := (hO 0 0 0).1
    exact ⟨(fun q hq => by cases hq), k9, hk9, cm9, hkk9⟩
  have hK2 : va_K D cl (tys ++ [(cA, .array ty)]) s := ⟨hK.1, fun k9 x hx => by
    by_cases hl : k9 < tys.length
    · rw [List.getElem?_append_left hl] at hx
      exact hK.2 k9 x hx
    · rw [List.getElem?_append_right (by omega)] at hx
      have h0 : k9 - tys.length < 1 := (List.getElem?_eq_some_iff.mp hx).1
      rw [show k9 - tys.length = 0 by omega] at hx
      cases hx
      exact ⟨hAr, fA⟩⟩
  obtain ⟨t, a1, b1⟩ := kk H.size (fun i => H.size + 1 + i) cA F.heap (fun i j _ _ h => by have h9 : H.size + 1 + i = H.size + 1 + j := h; omega) hnl hK2 (by rw [← vr_rows hnm]; exact vr_lay hP2) (by rw [← vr_rows hnm]; exact vr_layD hD2) ⟨by rw [f1]; have := hS.1; omega, fun x h1 h2 => (hold x (Nat.lt_of_lt_of_le h1 hS.1)).trans (hS.2.1 x h1 h2), hS.2.2⟩ F rfl X'
  refine ⟨t, step t ?_, b1⟩
  have e : T.heap.size = H.size := by rw [hT]
  rw [e]
  exact a1
end VGM
/-! ===== END ===== -/

/-! ===== BEGIN exceptions that leave a method, and their catching by the caller (launches without stack traces) ===== -/
section VXA
/-! The laws vx_back, vx_callV, vx_callS, vx_callSW, vx_throw0, vx_throwS follow proofs of the library, with one case more: JvmDerived/Free/Laws.lean (Back.of_free), Shelf42/LK1.lean (callV, callS), Shelf/KitTraced.lean (throwNew0V, throwNewS). -/
/-- where a method has thrown q: the class by its name, the cell, what was written, the world -/
def vx_T (XC : String → State → State → Prop) (st : State) (q : Addr) (t : State) (mc ms : Nat) (free : Addr → Prop) : Prop :=
  ∃ (E : String) (ce : Cell) (L : List Loc), XC E st t ∧ t.heap[q]? = some ce ∧ ce.vm = .none ∧ st.vm.findClass E = some ce.cls ∧ st.WarmedH t.vm ∧ st.sameButNew ({ t with vm := st.vm } : State) L mc ms ∧ ∀ z ∈ L, free z.base
def vx_Q (Qc : Array Value → State → Outcome → State → Prop) (XC : String → State → State → Prop) (mc ms : Nat) (free : Addr → Prop) : Array Value → State → Outcome → State → Prop := fun a st o t =>
  (Qc a st o t ∧ ∃ L, FrameEnd st o t L mc ms ∧ ∀ q ∈ L, free q.base) ∨ ∃ q, o = .threw q ∧ vx_T XC st q t mc ms free
/-- a callee that returns or throws -/
def vx_Met (l : Launch) (y : MethodName) (ws : List Cond) (rm : Room) (Pc : Array Value → State → Prop) (Qc : Array Value → State → Outcome → State → Prop) (XC : String → State → State → Prop) (mc ms : Nat) (free : Addr → Prop) : Prop :=
  MetFree l y (headSpec ws rm) Pc (fun _ _ _ _ _ => True) (vx_Q Qc XC mc ms free)
def vx_Post (XC : String → State → State → Prop) (mc ms : Nat) (free : Addr → Prop) : Pt → Array Value → Addr → Pt → Prop := fun A a q B =>
  ∃ (g : JFrame) (mk : MethodId) (t : State) (L : List Loc) (E : String) (ce : Cell), B.U.heap = t.heap ∧ B.U.vm = t.vm ∧ XC E (A.U.calling g mk a) t ∧ t.heap[q]? = some ce ∧ ce.vm = .none ∧ A.U.vm.findClass E = some ce.cls ∧ B.locs = A.locs ++ L ∧ (∀ z ∈ L, free z.base) ∧ B.cells = A.cells + mc ∧ B.slots = A.slots + ms
def vx_Back (l : Launch) (R : Room) (p : Program) (e : Env) (below : List Frame) (s : State) (sargs : Array Value) (y : MethodName) (len W9 : Nat)
    (Pre : Pt → Array Value → Prop) (Post : Pt → Array Value → Option Value → Pt → Prop) (PostX : Pt → Array Value → Addr → Pt → Prop) : Prop :=
  ∀ (m : MethodId) (meth : Method) (c : Code) (A : Pt) (g : JFrame) (ig : Instr) (mk : MethodId) (a : Array Value),
    Stand p l e R s m sargs below meth c A.U A.locs A.cells A.slots → g.method = m → g.locals.size = c.maxLocals → decode c.code g.pc = .ok (ig, len) →
    2 * g.monitorRoom + (g.stack.map fun v => v.category).sum ≤ W9 → A.U.methodNamed? y = some mk → Pre A a →
    (∃ (v : Option Value) (B : Pt), Stand p l e R s m sargs below meth c B.U B.locs B.cells B.slots ∧ Post A a v B ∧
      Steps p.tables e below (doInvoke e (A.U.setTop g) [] mk a).1 (B.U.setTop { g with pc := g.pc + len, stack := v.toList ++ g.stack })) ∨
    (∃ (q : Addr) (B : Pt), Stand p l e R s m sargs below meth c B.U B.locs B.cells B.slots ∧ PostX A a q B ∧
      Steps p.tables e below (doInvoke e (A.U.setTop g) [] mk a).1 ((B.U.setTop g).pushFrame (.throwing q)))
section Payer
variable {l : Launch} {R : Room} {p : Program} {e : Env} {below : List Frame} {s : State} {sargs : Array Value} {y : MethodName} {len W9 : Nat}
theorem vx_back {ws : List Cond} {rm : Room} {Pc : Array Value → State → Prop} {Qc : Array Value → State → Outcome → State → Prop} {XC : String → State → State → Prop} {mc ms : Nat} {free : Addr → Prop} {bytes : ByteArray} {maxL : Nat} {ret : Option FieldType}
    (hM : vx_Met l y ws rm Pc Qc XC mc ms free) (hblind : FrameBlind Pc) (hrc : rm.cells = mc) (hrs : rm.slots = ms)
    (hframes : rm.frames + 1 ≤ R.frames) (hlocals : W9 + (maxL + 11) + rm.locals ≤ R.locals)
    (hws : ∀ w ∈ ws, ∀ a' U, s.WarmedH U.vm → w.before a' U = true) (hcode : Cond.code y bytes maxL ret ∈ ws) (hinit : ∀ a' U, s.WarmedH U.vm → (Cond.initialized y.cls).before a' U = true) :
    vx_Back l R p e below s sargs y len W9 (PreOf R mc ms Pc) (PostOf Qc mc ms free) (vx_Post XC mc ms free) := by
  intro m meth c A g ig mk a X hg hsize hdg hW hn hp
  have h1 : (headSpec ws rm).pre.before a A.U = true := atoms_intro fun w hw => hws w hw _ _ X.warmed
  have h2 : (Cond.code y bytes maxL ret).before a A.U = true := hws _ hcode _ _ X.warmed
  have h3 : (Cond.initialized y.cls).before a A.U = true := hinit _ _ X.warmed
  have h4 : A.cells + (headSpec ws rm).room.cells ≤ R.cells := by rw [show (headSpec ws rm).room.cells = mc from hrc]; exact hp.1
  have h5 : A.slots + (headSpec ws rm).room.slots ≤ R.slots := by rw [show (headSpec ws rm).room.slots = ms from hrs]; exact hp.2.1
  have hPc : Pc a (A.U.calling g mk a) := hblind _ _ _ _ hp.2.2
  obtain ⟨U, Ls, c0, s0⟩ := A
  dsimp only [Pt.U, Pt.locs, Pt.cells, Pt.slots] at h1 h2 h3 h4 h5 X hn hPc ⊢
  obtain ⟨methY, cY, hmY, hcY, -, hlY, -, -, -, -⟩ := Cond.code_spec hn h2
  obtain ⟨kY, hkY, -⟩ := className_of_methodNamed hn
  have hinitY : kY.init = .initialized := Cond.initialized_spec (findClass_of_methodNamed hn) hkY h3
  have h : At U g.method c below := by rw [hg]; exact X.here
  have hlocals9 : W9 + (maxL + 11) + (headSpec ws rm).room.locals ≤ R.locals := hlocals
  have happ : (headSpec ws rm).appliesLoose y e.platform (U.calling g mk a) = true :=
    Spec.appliesLoose_calling (g := g) h hdg hn hkY hinitY
      (X.room_calling (g := g) (R' := (headSpec ws rm).room) hsize hmY hcY hframes (by rw [hlY]; omega) h4 h5) h1
  obtain ⟨mid, hmid⟩ := h.above
  have hfr : (U.setTop g).frames = (.java g :: mid) ++ below := by rw [State.frames_setTop' g h.top, hmid]; rfl
  obtain ⟨o, s₂, hsteps, -, hend, hq⟩ := Steps.callFree hM p X.admits X.cas X.clock (acts := []) hfr happ hPc trivial
  have hq' : vx_Q Qc XC mc ms free a (U.calling g mk a) o s₂ := hq
  rw [State.frames_setTop' g h.top] at hend
  obtain ⟨g₀, hg0⟩ := Option.isSome_iff_exists.mp h.top
  obtain ⟨r, hr⟩ := State.topJava?_eq_some.mp hg0
  have hr' : (({ U with heap := s₂.heap, slotsUsed := s₂.slotsUsed } : State).setVm s₂.vm).frames = .java g₀ :: r := hr
  rcases hq' with ⟨hqc, L, hfe, hL⟩ | ⟨q, rfl, E, ce, L, hx, hce, hcv, hcl, hW₂, hsm, hL⟩
  · obtain ⟨⟨v, rfl⟩, hW₂, e2, q2, q3, q4, q5, q6⟩ := id hfe
    have e3 : s₂ = ({ (U.calling g mk a).setFrames s₂.frames with heap := s₂.heap, slotsUsed := s₂.slotsUsed } : State).setVm s₂.vm := by
      have : s₂ = ({ s₂ with vm := (U.calling g mk a).vm } : State).setVm s₂.vm := rfl
      rw [e2] at this
      exact this
    obtain ⟨c₂, i₂, len₂, hc₂, hd₂, hf₂⟩ := hend
    have hW' : U.WarmedH s₂.vm := hW₂
    have hcc : c₂ = c := by
      have h1 : s₂.code? g.method = U.code? g.method := by
        rw [State.code?_eq, State.code?_eq, hW'.alike.method?]
      exact Option.some.inj (hc₂.symm.trans (h1.trans h.code))
    subst hcc
    have hlen : len₂ = len := by rw [hdg] at hd₂; cases hd₂; rfl
    subst hlen
    have hs₂ : s₂ = (({ U with heap := s₂.heap, slotsUsed := s₂.slotsUsed } : State).setVm s₂.vm).setTop { g with pc := g.pc + len₂, stack := v.toList ++ g.stack } := by
      refine e3.trans ?_
      rw [hf₂, State.calling_eq h.top, State.setFrames_setFrames, State.setTop_of_frames _ hr', hr]
      rfl
    have hsame : U.sameButNew ({ U with heap := s₂.heap, slotsUsed := s₂.slotsUsed } : State) L mc ms := by
      refine ⟨?_, q2, q3, q4, q5, q6⟩
      obtain ⟨t, ht, -⟩ := State.frames_cons hr
      show ({ U with heap := s₂.heap, slotsUsed := s₂.slotsUsed } : State) = { U.setFrames U.frames with heap := s₂.heap, slotsUsed := s₂.slotsUsed }
      rw [State.setFrames_self ht]
    subst hg
    refine Or.inl ⟨v, ⟨(({ U with heap := s₂.heap, slotsUsed := s₂.slotsUsed } : State).setVm s₂.vm), Ls ++ L, c0 + mc, s0 + ms⟩,
      ⟨X.admits, X.cas, X.clock, X.frames, X.room, X.hears, X.method, X.code, (X.here.setHeapUsed s₂.heap s₂.slotsUsed).setVm hW'.alike, X.tail, State.WarmedH.trans X.warmed hW', X.limits, X.bytes, X.same.trans (hsame.setVm s.vm)⟩,
      ⟨g, mk, s₂, L, rfl, rfl, hqc, rfl, hL, rfl, rfl⟩, ?_⟩
    show Steps p.tables e below _ ((({ U with heap := s₂.heap, slotsUsed := s₂.slotsUsed } : State).setVm s₂.vm).setTop { g with pc := g.pc + len₂, stack := v.toList ++ g.stack })
    rw [← hs₂]
    exact hsteps
  · obtain ⟨e2, q2, q3, q4, q5, q6⟩ := id hsm
    have e3 : s₂ = ({ (U.calling g mk a).setFrames s₂.frames with heap := s₂.heap, slotsUsed := s₂.slotsUsed } : State).setVm s₂.vm := by
      have : s₂ = ({ s₂ with vm := (U.calling g mk a).vm } : State).setVm s₂.vm := rfl
      rw [e2] at this
      exact this
    have hf₂ : s₂.frames = .throwing q :: .java g :: U.frames.tail := hend
    have hW' : U.WarmedH s₂.vm := hW₂
    have hs₂ : s₂ = ((({ U with heap := s₂.heap, slotsUsed := s₂.slotsUsed } : State).setVm s₂.vm).setTop g).pushFrame (.throwing q) := by
      refine e3.trans ?_
      rw [hf₂, State.calling_eq h.top, State.setFrames_setFrames, State.pushFrame, State.frames_setTop _ hr', State.setTop_of_frames _ hr', State.setFrames_setFrames, hr]
      rfl
    have hsame : U.sameButNew ({ U with heap := s₂.heap, slotsUsed := s₂.slotsUsed } : State) L mc ms := by
      refine ⟨?_, q2, q3, q4, q5, q6⟩
      obtain ⟨t, ht, -⟩ := State.frames_cons hr
      show ({ U with heap := s₂.heap, slotsUsed := s₂.slotsUsed } : State) = { U.setFrames U.frames with heap := s₂.heap, slotsUsed := s₂.slotsUsed }
      rw [State.setFrames_self ht]
    subst hg
    refine Or.inr ⟨q, ⟨(({ U with heap := s₂.heap, slotsUsed := s₂.slotsUsed } : State).setVm s₂.vm), Ls ++ L, c0 + mc, s0 + ms⟩,
      ⟨X.admits, X.cas, X.clock, X.frames, X.room, X.hears, X.method, X.code, (X.here.setHeapUsed s₂.heap s₂.slotsUsed).setVm hW'.alike, X.tail, State.WarmedH.trans X.warmed hW', X.limits, X.bytes, X.same.trans (hsame.setVm s.vm)⟩,
      ⟨g, mk, s₂, L, E, ce, rfl, rfl, hx, hce, hcv, hcl, rfl, hL, rfl, rfl⟩, ?_⟩
    show Steps p.tables e below _ (((({ U with heap := s₂.heap, slotsUsed := s₂.slotsUsed } : State).setVm s₂.vm).setTop g).pushFrame (.throwing q))
    rw [← hs₂]
    exact hsteps
end Payer
section Calls
variable {p : Program} {l : Launch} {e : Env} {R : Room} {s : State} {m : MethodId} {args : Array Value} {below : List Frame} {meth : Method} {c : Code} {T : State} {locs : List Loc} {cells slots : Nat}
theorem vx_callV (X : Stand p l e R s m args below meth c T locs cells slots) (hexec : p.tables.exec = Jvm.exec) {own C : String} {index : Nat} {y : MethodName} {bytes : ByteArray} {maxL : Nat} {ret : Option FieldType}
    (hown : s.vm.findClass own = some m.cls) (hlink : (Cond.methodLink own index y).before args s = true) (hinst : (Cond.instanceMethod y).before args s = true) (hsel : (Cond.selects C y y).before args s = true)
    (hcode : (Cond.code y bytes maxL ret).before args s = true) (hy : y.cls ≠ "java/lang/invoke/MethodHandle" ∧ y.cls ≠ "java/lang/invoke/VarHandle")
    {W9 : Nat} {Pre : Pt → Array Value → Prop} {Post : Pt → Array Value → Option Value → Pt → Prop} {PostX : Pt → Array Value → Addr → Pt → Prop} (hK : vx_Back l R p e below s args y 3 W9 Pre Post PostX)
    {b : Addr} {cellB : Cell} (hcell : T.heap[b]? = some cellB) (hobj : cellB.vm.isStatics = false) (hcls : s.vm.findClass C = some cellB.cls)
    {g : JFrame} (hg : g.method = m) (hsize : g.locals.size = c.maxLocals) {argsL rest : List Value} (hlen : ∀ sig, parseMethodDescriptor y.desc = some sig → argsL.length = sig.parameters.length)
    (hstack : g.stack = argsL.reverse ++ .ref b :: rest) (hW : 2 * g.monitorRoom + (rest.map fun v => v.category).sum ≤ W9) (hdg : decode c.code g.pc = .ok (.invokevirtual index, 3))
    (hpre : ∀ vm₁, s.WarmedH vm₁ → Pre ⟨T.setVm vm₁, locs, cells, slots⟩ (Value.ref b :: argsL).toArray) :
    (∃ (v : Option Value) (vm₁ : Vm) (B : Pt), s.WarmedH vm₁ ∧ Stand p l e R s m args below meth c B.U B.locs B.cells B.slots ∧ Post ⟨T.setVm vm₁, locs, cells, slots⟩ (Value.ref b :: argsL).toArray v B ∧
      ∀ target, Steps p.tables e below (B.U.setTop { g with pc := g.pc + 3, stack := v.toList ++ rest }) target → Steps p.tables e below (T.setTop g) target) ∨
    (∃ (q : Addr) (vm₁ : Vm) (B : Pt), s.WarmedH vm₁ ∧ Stand p l e R s m args below meth c B.U B.locs B.cells B.slots ∧ PostX ⟨T.setVm vm₁, locs, cells, slots⟩ (Value.ref b :: argsL).toArray q B ∧
      Steps p.tables e below (T.setTop g) ((B.U.setTop { g with stack := rest }).pushFrame (.throwing q))) := by
  obtain ⟨mk, methM, hnamed, hmethM, hstM, habM⟩ := Cond.instanceMethod_spec hinst
  obtain ⟨methM', cM, hmethM', -, -, -, -, -, -, hsigM⟩ := Cond.code_spec hnamed hcode
  cases hmethM.symm.trans hmethM'
  obtain ⟨c2, r2, m2, q1, q2, q3, q4, kP, hkP, hkPi⟩ := Cond.selects_spec hsel
  cases hcls.symm.trans q1
  cases (State.methodFound?_of_named hnamed hy).symm.trans q2
  cases hnamed.symm.trans q3
  have hselP : selectMethod e.platform s.vm cellB.cls mk = .method mk := by rw [Launch.admits_selectMethod X.admits]; exact q4
  obtain ⟨vm₁, X₁, hstep₁⟩ := X.invokevirtual hexec hown hlink hnamed hmethM hstM hkP hkPi hy (a := b) (cell := cellB) hcell
    (fun z h => by rw [h] at hobj; cases hobj) hselP hmethM habM hkP hkPi (g := g) hg (argsL := argsL) (rest := rest) (hlen _ hsigM) hstack hdg
  rcases hK m meth c ⟨T.setVm vm₁, locs, cells, slots⟩ { g with stack := rest } (.invokevirtual index) mk (Value.ref b :: argsL).toArray X₁ hg hsize hdg hW (X₁.named hnamed) (hpre vm₁ X₁.warmed) with ⟨v, B, X', hpost, hsteps⟩ | ⟨q, B, X', hpost, hsteps⟩
  · exact Or.inl ⟨v, vm₁, B, X₁.warmed, X', hpost, fun target h => hstep₁ _ fun acts => by rw [doInvoke_state]; exact hsteps.trans h⟩
  · exact Or.inr ⟨q, vm₁, B, X₁.warmed, X', hpost, hstep₁ _ fun acts => by rw [doInvoke_state]; exact hsteps⟩
theorem vx_callS (X : Stand p l e R s m args below meth c T locs cells slots) (hexec : p.tables.exec = Jvm.exec) {own : String} {index : Nat} {y : MethodName} {bytes : ByteArray} {maxL : Nat} {ret : Option FieldType}
    (hown : s.vm.findClass own = some m.cls) (hlink : (Cond.methodLink own index y).before args s = true) (hstat : (Cond.static y).before args s = true) (hinit : (Cond.initialized y.cls).before args s = true)
    (hcode : (Cond.code y bytes maxL ret).before args s = true) (hy : y.cls ≠ "java/lang/invoke/MethodHandle" ∧ y.cls ≠ "java/lang/invoke/VarHandle")
    {W9 : Nat} {Pre : Pt → Array Value → Prop} {Post : Pt → Array Value → Option Value → Pt → Prop} {PostX : Pt → Array Value → Addr → Pt → Prop} (hK : vx_Back l R p e below s args y 3 W9 Pre Post PostX)
    {g : JFrame} (hg : g.method = m) (hsize : g.locals.size = c.maxLocals) {argsL rest : List Value} (hlen : ∀ sig, parseMethodDescriptor y.desc = some sig → argsL.length = sig.parameters.length)
    (hstack : g.stack = argsL.reverse ++ rest) (hW : 2 * g.monitorRoom + (rest.map fun v => v.category).sum ≤ W9) (hdg : decode c.code g.pc = .ok (.invokestatic index, 3))
    (hpre : ∀ vm₁, s.WarmedH vm₁ → Pre ⟨T.setVm vm₁, locs, cells, slots⟩ argsL.toArray) :
    (∃ (v : Option Value) (vm₁ : Vm) (B : Pt), s.WarmedH vm₁ ∧ Stand p l e R s m args below meth c B.U B.locs B.cells B.slots ∧ Post ⟨T.setVm vm₁, locs, cells, slots⟩ argsL.toArray v B ∧
      ∀ target, Steps p.tables e below (B.U.setTop { g with pc := g.pc + 3, stack := v.toList ++ rest }) target → Steps p.tables e below (T.setTop g) target) ∨
    (∃ (q : Addr) (vm₁ : Vm) (B : Pt), s.WarmedH vm₁ ∧ Stand p l e R s m args below meth c B.U B.locs B.cells B.slots ∧ PostX ⟨T.setVm vm₁, locs, cells, slots⟩ argsL.toArray q B ∧
      Steps p.tables e below (T.setTop g) ((B.U.setTop { g with stack := rest }).pushFrame (.throwing q))) := by
  obtain ⟨mk, hnamed⟩ := Cond.code_named hcode
  obtain ⟨methM, cM, hmethM, -, -, -, -, -, -, hsigM⟩ := Cond.code_spec hnamed hcode
  have hstatic : methM.isStatic = true := Cond.static_spec hnamed hmethM hstat
  obtain ⟨kP, hkP, -⟩ := className_of_methodNamed hnamed
  have hinitP : kP.init = .initialized := Cond.initialized_spec (findClass_of_methodNamed hnamed) hkP hinit
  obtain ⟨vm₁, X₁, hstep₁⟩ := X.invokestatic hexec hown hlink hnamed hmethM hstatic hkP hinitP hy (g := g) hg (argsL := argsL) (rest := rest) (hlen _ hsigM) hstack hdg
  rcases hK m meth c ⟨T.setVm vm₁, locs, cells, slots⟩ { g with stack := rest } (.invokestatic index) mk argsL.toArray X₁ hg hsize hdg hW (X₁.named hnamed) (hpre vm₁ X₁.warmed) with ⟨v, B, X', hpost, hsteps⟩ | ⟨q, B, X', hpost, hsteps⟩
  · exact Or.inl ⟨v, vm₁, B, X₁.warmed, X', hpost, fun target h => hstep₁ _ fun acts => by rw [doInvoke_state]; exact hsteps.trans h⟩
  · exact Or.inr ⟨q, vm₁, B, X₁.warmed, X', hpost, hstep₁ _ fun acts => by rw [doInvoke_state]; exact hsteps⟩
end Calls
theorem vx_cls {s : State} {T : State} {vm₁ : Vm} {E : String} {k : ClassId} (hW : s.WarmedH vm₁) (h : (T.setVm vm₁).vm.findClass E = some k) : s.vm.findClass E = some k := by
  have h1 : vm₁.findClass E = some k := h
  rw [hW.alike.findClass] at h1
  exact h1
/-- the method's frame g, with q thrown over it -/
def vx_W (p : Program) (l : Launch) (e : Env) (R : Room) (s : State) (m : MethodId) (args : Array Value) (below : List Frame) (meth : Method) (c : Code) (H : Heap) (locs : List Loc) (cells slots : Nat) (Q : State → Prop) (g : JFrame) (q : Addr) : Prop :=
  ∀ T : State, T.heap = H → Stand p l e R s m args below meth c T locs cells slots → ∃ t, Steps p.tables e below ((T.setTop g).pushFrame (.throwing q)) t ∧ Q t
def vx_Run (p : Program) (l : Launch) (e : Env) (R : Room) (s : State) (m : MethodId) (args : Array Value) (below : List Frame) (meth : Method) (c : Code) (H : Heap) (locs : List Loc) (cells slots mc ms : Nat) (g : JFrame) (rest : List Value) (Qa : State → Outcome → State → Prop) (XC : String → State → State → Prop) (free : Addr → Prop) : Prop :=
  ∀ T : State, T.heap = H → Stand p l e R s m args below meth c T locs cells slots →
    (∃ (v : Option Value) (st₀ t T' : State) (L : List Loc), st₀.heap = H ∧ Stand p l e R s m args below meth c T' (locs ++ L) (cells + mc) (slots + ms) ∧ (∀ q ∈ L, free q.base) ∧ T'.heap = t.heap ∧ T'.vm = t.vm ∧ Qa st₀ (.returned v) t ∧
      Goes p e below T g T' { g with pc := g.pc + 3, stack := v.toList ++ rest }) ∨
    (∃ (q : Addr) (st₀ t T' : State) (L : List Loc) (E : String) (ce : Cell), st₀.heap = H ∧ Stand p l e R s m args below meth c T' (locs ++ L) (cells + mc) (slots + ms) ∧ (∀ z ∈ L, free z.base) ∧ T'.heap = t.heap ∧ T'.vm = t.vm ∧ XC E st₀ t ∧ t.heap[q]? = some ce ∧ ce.vm = .none ∧ s.vm.findClass E = some ce.cls ∧
      Steps p.tables e below (T.setTop g) ((T'.setTop { g with stack := rest }).pushFrame (.throwing q)))
def vx_X {S : Type} (px : S → Prop) (B : String → S → State → Prop) (A : Nat → Prop) : String → State → State → Prop := fun E st t => ∃ u : S, px u ∧ B E u t ∧ va_F A st t
section Runs
variable {p : Program} {l : Launch} {e : Env} {R : Room} {s : State} {m : MethodId} {args : Array Value} {below : List Frame} {meth : Method} {c : Code} {H : Heap} {locs : List Loc} {cells slots : Nat}
variable {y : MethodName} {bytes cc : ByteArray} {maxL nL mc ms n index : Nat} {ret : Option FieldType} {ws : List Cond} {rm : Room} {Pc : Array Value → State → Prop} {Qc : Array Value → State → Outcome → State → Prop} {XC : String → State → State → Prop} {free : Addr → Prop} {Ts : List Cond} {own C : String} {b : Addr} {As rest : List Value} {g : JFrame}
theorem vx_callBack (cb : CallB R s args own index y bytes maxL ret ws rm mc ms n) (hM : vx_Met l y ws rm Pc Qc XC mc ms free) (hbl : FrameBlind Pc) : vx_Back l R p e below s args y 3 8 (PreOf R mc ms Pc) (PostOf Qc mc ms free) (vx_Post XC mc ms free) := by
  obtain ⟨hrc, hrs, hfr, hlo, hws, hcw, -, hini, -⟩ := cb
  exact vx_back (bytes := bytes) (maxL := maxL) (ret := ret) hM hbl hrc hrs hfr hlo hws hcw (fun a' U hW => word_at hW (Or.inl (by first | rfl | simp [Cond.onTables, Cond.keeps, Cond.steady])) hini)
theorem vx_runV (S : CallFix p m c cc nL s args Ts own) (hM : vx_Met l y ws rm Pc Qc XC mc ms free) (cw : CallW R s args own C index y bytes maxL ret ws rm mc ms n) (hp : PreV s H C b Pc As)
    (hg : g.method = m) (hn : As.length = n) (hsize : g.locals.size = nL) (hstack : g.stack = As.reverse ++ .ref b :: rest) (hW : 2 * g.monitorRoom + (rest.map fun v => v.category).sum ≤ 8) (hdg : decode cc g.pc = .ok (.invokevirtual index, 3)) (hf : cells + mc ≤ R.cells ∧ slots + ms ≤ R.slots) :
    vx_Run p l e R s m args below meth c H locs cells slots mc ms g rest (Qc (Value.ref b :: As).toArray) XC free := by
  have hK : vx_Back l R p e below s args y 3 8 (PreOf R mc ms Pc) (PostOf Qc mc ms free) (vx_Post XC mc ms free) := vx_callBack cw.1 hM hp.1
  obtain ⟨⟨-, -, -, -, -, -, hcode, -, hy, hlen, hl⟩, hin, hse⟩ := cw
  obtain ⟨hx, hb, hml, ho, -⟩ := S
  obtain ⟨-, ⟨cellB, hcB, hoB, hclB⟩, hPc⟩ := hp
  intro T hT X
  rcases vx_callV X hx (C := C) (bytes := bytes) (maxL := maxL) (ret := ret) ho hl hin hse hcode hy hK (by rw [hT]; exact hcB) hoB hclB hg (hsize.trans hml.symm) (argsL := As) (rest := rest) (fun sig h => hn.trans (hlen sig h)) hstack hW (by rw [hb]; exact hdg)
    (fun vm₁ hW₁ => ⟨hf.1, hf.2, hPc (T.setVm vm₁) hT hW₁⟩) with ⟨v, vm₁, ⟨U', l2, c2, s2⟩, hW₁, X', ⟨g', mk, t, L, e1, e2, hq, h1, hL, h2, h3⟩, st⟩ | ⟨q, vm₁, ⟨U', l2, c2, s2⟩, hW₁, X', ⟨g', mk, t, L, E, ce, e1, e2, hq, hce, hcv, hcl, h1, hL, h2, h3⟩, st⟩
  · dsimp only [Pt.U, Pt.locs, Pt.cells, Pt.slots] at X' e1 e2 h1 h2 h3 st
    subst h1; subst h2; subst h3
    exact Or.inl ⟨v, (T.setVm vm₁).calling g' mk (Value.ref b :: As).toArray, t, U', L, hT, X', hL, e1, e2, hq, st⟩
  · dsimp only [Pt.U, Pt.locs, Pt.cells, Pt.slots] at X' e1 e2 h1 h2 h3 st hcl
    subst h1; subst h2; subst h3
    exact Or.inr ⟨q, (T.setVm vm₁).calling g' mk (Value.ref b :: As).toArray, t, U', L, E, ce, hT, X', hL, e1, e2, hq, hce, hcv, vx_cls hW₁ hcl, st⟩
theorem vx_runS (S : CallFix p m c cc nL s args Ts own) (hM : vx_Met l y ws rm Pc Qc XC mc ms free) (cw : CallB R s args own index y bytes maxL ret ws rm mc ms n ∧ (Cond.static y).before args s = true) (hp : PreS s H Pc As)
    (hg : g.method = m) (hn : As.length = n) (hsize : g.locals.size = nL) (hstack : g.stack = As.reverse ++ rest) (hW : 2 * g.monitorRoom + (rest.map fun v => v.category).sum ≤ 8) (hdg : decode cc g.pc = .ok (.invokestatic index, 3)) (hf : cells + mc ≤ R.cells ∧ slots + ms ≤ R.slots) :
    vx_Run p l e R s m args below meth c H locs cells slots mc ms g rest (Qc As.toArray) XC free := by
  have hK : vx_Back l R p e below s args y 3 8 (PreOf R mc ms Pc) (PostOf Qc mc ms free) (vx_Post XC mc ms free) := vx_callBack cw.1 hM hp.1
  obtain ⟨⟨-, -, -, -, -, -, hcode, hini, hy, hlen, hl⟩, hstt⟩ := cw
  obtain ⟨hx, hb, hml, ho, -⟩ := S
  intro T hT X
  rcases vx_callS X hx (bytes := bytes) (maxL := maxL) (ret := ret) ho hl hstt hini hcode hy hK hg (hsize.trans hml.symm) (argsL := As) (rest := rest) (fun sig h => hn.trans (hlen sig h)) hstack hW (by rw [hb]; exact hdg)
    (fun vm₁ hW₁ => ⟨hf.1, hf.2, hp.2 (T.setVm vm₁) hT hW₁⟩) with ⟨v, vm₁, ⟨U', l2, c2, s2⟩, hW₁, X', ⟨g', mk, t, L, e1, e2, hq, h1, hL, h2, h3⟩, st⟩ | ⟨q, vm₁, ⟨U', l2, c2, s2⟩, hW₁, X', ⟨g', mk, t, L, E, ce, e1, e2, hq, hce, hcv, hcl, h1, hL, h2, h3⟩, st⟩
  · dsimp only [Pt.U, Pt.locs, Pt.cells, Pt.slots] at X' e1 e2 h1 h2 h3 st
    subst h1; subst h2; subst h3
    exact Or.inl ⟨v, (T.setVm vm₁).calling g' mk As.toArray, t, U', L, hT, X', hL, e1, e2, hq, st⟩
  · dsimp only [Pt.U, Pt.locs, Pt.cells, Pt.slots] at X' e1 e2 h1 h2 h3 st hcl
    subst h1; subst h2; subst h3
    exact Or.inr ⟨q, (T.setVm vm₁).calling g' mk As.toArray, t, U', L, E, ce, hT, X', hL, e1, e2, hq, hce, hcv, vx_cls hW₁ hcl, st⟩
end Runs
section Rows
variable {p : Program} {l : Launch} {e : Env} {R : Room} {s : State} {m : MethodId} {args : Array Value} {below : List Frame} {meth : Method} {c : Code} {H : Heap} {locs : List Loc} {cells slots : Nat} {Q : State → Prop}
variable {mc ms : Nat} {free : Addr → Prop} {A0 A1 : Nat → Prop} {H0 : Heap} {a : Array Value} {pc : Nat} {ls : Array Slot} {st0 rest : List Value}
theorem vx_keep {st₀ t T' : State} {L : List Loc} (h0 : st₀.heap = H) (e1 : T'.heap = t.heap) (hS : va_S A0 H0 H locs) (hA : ∀ q, q < H.size → A1 q → A0 q) (hf : ∀ q, free q → A0 q) (hL : ∀ q ∈ L, free q.base) (hF : va_F A1 st₀ t) :
    H.size ≤ T'.heap.size ∧ (∀ q : Nat, q < H.size → ¬ A1 q → T'.heap[q]? = H[q]?) ∧ va_S A0 H0 T'.heap (locs ++ L) := by
  obtain ⟨hz, hk⟩ := hF
  rw [h0] at hz hk
  exact ⟨by rw [e1]; exact hz, fun q h1 h2 => by rw [e1]; exact hk q h1 h2,
    ⟨Nat.le_trans hS.1 (by rw [e1]; exact hz), fun q h1 h2 => by rw [e1, hk q (Nat.lt_of_lt_of_le h1 hS.1) (fun z => h2 (hA q (Nat.lt_of_lt_of_le h1 hS.1) z))]; exact hS.2.1 q h1 h2, fun q hq => by
      rcases List.mem_append.mp hq with h | h
      · exact hS.2.2 q h
      · exact hf _ (hL q h)⟩⟩
theorem vx_calli {S SX : Type} {post : Int32 → S → Prop} {px : SX → Prop} {B : S → State → Prop} {BX : String → SX → State → Prop} {AX : Nat → Prop} (hr : vx_Run p l e R s m args below meth c H locs cells slots mc ms (F0 m pc ls st0) rest (va_Qi post B A1 a) (vx_X px BX AX) free) (hS : va_S A0 H0 H locs) (hA : ∀ q, q < H.size → A1 q → A0 q) (hf : ∀ q, free q → A0 q) (hAX : ∀ q, q < H.size → AX q → A0 q)
    (kx : ∀ (E : String) (ce : Cell) (q9 : Addr) (u : SX) (t : State) (H1 : Heap) (locs1 : List Loc), t.heap = H1 → s.vm.Alike t.vm → px u → BX E u t → H.size ≤ H1.size → (∀ q : Nat, q < H.size → ¬ AX q → H1[q]? = H[q]?) → va_S A0 H0 H1 locs1 → H1[q9]? = some ce → ce.vm = .none → s.vm.findClass E = some ce.cls → vx_W p l e R s m args below meth c H1 locs1 (cells + mc) (slots + ms) Q (F0 m pc ls rest) q9)
    (kk : ∀ (r : Int32) (u : S) (t : State) (H1 : Heap) (locs1 : List Loc), t.heap = H1 → s.vm.Alike t.vm → post r u → B u t → H.size ≤ H1.size → (∀ q : Nat, q < H.size → ¬ A1 q → H1[q]? = H[q]?) → va_S A0 H0 H1 locs1 → W p l e R s m args below meth c H1 locs1 (cells + mc) (slots + ms) Q (F0 m (pc + 3) ls (.int r :: rest))) : W p l e R s m args below meth c H locs cells slots Q (F0 m pc ls st0) := by
  intro T hT X
  rcases hr T hT X with ⟨v, st₀, t, T', L, h0, X', hL, e1, e2, ⟨⟨r, u, hv, hp, hb⟩, hF⟩, st⟩ | ⟨q, st₀, t, T', L, E, ce, h0, X', hL, e1, e2, ⟨u, hp, hb, hF⟩, hce, hcv, hcl, st⟩
  · cases hv
    obtain ⟨k1, k2, k3⟩ := vx_keep h0 e1 hS hA hf hL hF
    obtain ⟨t2, a1, b1⟩ := kk r u t T'.heap (locs ++ L) e1.symm (by rw [← e2]; exact X'.warmed.alike) hp hb k1 k2 k3 T' rfl X'
    exact ⟨t2, st t2 a1, b1⟩
  · obtain ⟨k1, k2, k3⟩ := vx_keep h0 e1 hS hAX hf hL hF
    obtain ⟨t2, a1, b1⟩ := kx E ce q u t T'.heap (locs ++ L) e1.symm (by rw [← e2]; exact X'.warmed.alike) hp hb k1 k2 k3 (by rw [e1]; exact hce) hcv hcl T' rfl X'
    exact ⟨t2, st.trans a1, b1⟩
theorem vx_calll {S SX : Type} {post : Int64 → S → Prop} {px : SX → Prop} {B : S → State → Prop} {BX : String → SX → State → Prop} {AX : Nat → Prop} (hr : vx_Run p l e R s m args below meth c H locs cells slots mc ms (F0 m pc ls st0) rest (va_Ql post B A1 a) (vx_X px BX AX) free) (hS : va_S A0 H0 H locs) (hA : ∀ q, q < H.size → A1 q → A0 q) (hf : ∀ q, free q → A0 q) (hAX : ∀ q, q < H.size → AX q → A0 q)
    (kx : ∀ (E : String) (ce : Cell) (q9 : Addr) (u : SX) (t : State) (H1 : Heap) (locs1 : List Loc), t.heap = H1 → s.vm.Alike t.vm → px u → BX E u t → H.size ≤ H1.size → (∀ q : Nat, q < H.size → ¬ AX q → H1[q]? = H[q]?) → va_S A0 H0 H1 locs1 → H1[q9]? = some ce → ce.vm = .none → s.vm.findClass E = some ce.cls → vx_W p l e R s m args below meth c H1 locs1 (cells + mc) (slots + ms) Q (F0 m pc ls rest) q9)
    (kk : ∀ (r : Int64) (u : S) (t : State) (H1 : Heap) (locs1 : List Loc), t.heap = H1 → s.vm.Alike t.vm → post r u → B u t → H.size ≤ H1.size → (∀ q : Nat, q < H.size → ¬ A1 q → H1[q]? = H[q]?) → va_S A0 H0 H1 locs1 → W p l e R s m args below meth c H1 locs1 (cells + mc) (slots + ms) Q (F0 m (pc + 3) ls (.long r :: rest))) : W p l e R s m args below meth c H locs cells slots Q (F0 m pc ls st0) := by
  intro T hT X
  rcases hr T hT X with ⟨v, st₀, t, T', L, h0, X', hL, e1, e2, ⟨⟨r, u, hv, hp, hb⟩, hF⟩, st⟩ | ⟨q, st₀, t, T', L, E, ce, h0, X', hL, e1, e2, ⟨u, hp, hb, hF⟩, hce, hcv, hcl, st⟩
  · cases hv
    obtain ⟨k1, k2, k3⟩ := vx_keep h0 e1 hS hA hf hL hF
    obtain ⟨t2, a1, b1⟩ := kk r u t T'.heap (locs ++ L) e1.symm (by rw [← e2]; exact X'.warmed.alike) hp hb k1 k2 k3 T' rfl X'
    exact ⟨t2, st t2 a1, b1⟩
  · obtain ⟨k1, k2, k3⟩ := vx_keep h0 e1 hS hAX hf hL hF
    obtain ⟨t2, a1, b1⟩ := kx E ce q u t T'.heap (locs ++ L) e1.symm (by rw [← e2]; exact X'.warmed.alike) hp hb k1 k2 k3 (by rw [e1]; exact hce) hcv hcl T' rfl X'
    exact ⟨t2, st.trans a1, b1⟩
theorem vx_callf {S SX : Type} {post : UInt32 → S → Prop} {px : SX → Prop} {B : S → State → Prop} {BX : String → SX → State → Prop} {AX : Nat → Prop} (hr : vx_Run p l e R s m args below meth c H locs cells slots mc ms (F0 m pc ls st0) rest (va_Qf post B A1 a) (vx_X px BX AX) free) (hS : va_S A0 H0 H locs) (hA : ∀ q, q < H.size → A1 q → A0 q) (hf : ∀ q, free q → A0 q) (hAX : ∀ q, q < H.size → AX q → A0 q)
    (kx : ∀ (E : String) (ce : Cell) (q9 : Addr) (u : SX) (t : State) (H1 : Heap) (locs1 : List Loc), t.heap = H1 → s.vm.Alike t.vm → px u → BX E u t → H.size ≤ H1.size → (∀ q : Nat, q < H.size → ¬ AX q → H1[q]? = H[q]?) → va_S A0 H0 H1 locs1 → H1[q9]? = some ce → ce.vm = .none → s.vm.findClass E = some ce.cls → vx_W p l e R s m args below meth c H1 locs1 (cells + mc) (slots + ms) Q (F0 m pc ls rest) q9)
    (kk : ∀ (r : UInt32) (u : S) (t : State) (H1 : Heap) (locs1 : List Loc), t.heap = H1 → s.vm.Alike t.vm → post r u → B u t → H.size ≤ H1.size → (∀ q : Nat, q < H.size → ¬ A1 q → H1[q]? = H[q]?) → va_S A0 H0 H1 locs1 → W p l e R s m args below meth c H1 locs1 (cells + mc) (slots + ms) Q (F0 m (pc + 3) ls (.float r :: rest))) : W p l e R s m args below meth c H locs cells slots Q (F0 m pc ls st0) := by
  intro T hT X
  rcases hr T hT X with ⟨v, st₀, t, T', L, h0, X', hL, e1, e2, ⟨⟨r, u, hv, hp, hb⟩, hF⟩, st⟩ | ⟨q, st₀, t, T', L, E, ce, h0, X', hL, e1, e2, ⟨u, hp, hb, hF⟩, hce, hcv, hcl, st⟩
  · cases hv
    obtain ⟨k1, k2, k3⟩ := vx_keep h0 e1 hS hA hf hL hF
    obtain ⟨t2, a1, b1⟩ := kk r u t T'.heap (locs ++ L) e1.symm (by rw [← e2]; exact X'.warmed.alike) hp hb k1 k2 k3 T' rfl X'
    exact ⟨t2, st t2 a1, b1⟩
  · obtain ⟨k1, k2, k3⟩ := vx_keep h0 e1 hS hAX hf hL hF
    obtain ⟨t2, a1, b1⟩ := kx E ce q u t T'.heap (locs ++ L) e1.symm (by rw [← e2]; exact X'.warmed.alike) hp hb k1 k2 k3 (by rw [e1]; exact hce) hcv hcl T' rfl X'
    exact ⟨t2, st.trans a1, b1⟩
theorem vx_calld {S SX : Type} {post : UInt64 → S → Prop} {px : SX → Prop} {B : S → State → Prop} {BX : String → SX → State → Prop} {AX : Nat → Prop} (hr : vx_Run p l e R s m args below meth c H locs cells slots mc ms (F0 m pc ls st0) rest (va_Qd post B A1 a) (vx_X px BX AX) free) (hS : va_S A0 H0 H locs) (hA : ∀ q, q < H.size → A1 q → A0 q) (hf : ∀ q, free q → A0 q) (hAX : ∀ q, q < H.size → AX q → A0 q)
    (kx : ∀ (E : String) (ce : Cell) (q9 : Addr) (u : SX) (t : State) (H1 : Heap) (locs1 : List Loc), t.heap = H1 → s.vm.Alike t.vm → px u → BX E u t → H.size ≤ H1.size → (∀ q : Nat, q < H.size → ¬ AX q → H1[q]? = H[q]?) → va_S A0 H0 H1 locs1 → H1[q9]? = some ce → ce.vm = .none → s.vm.findClass E = some ce.cls → vx_W p l e R s m args below meth c H1 locs1 (cells + mc) (slots + ms) Q (F0 m pc ls rest) q9)
    (kk : ∀ (r : UInt64) (u : S) (t : State) (H1 : Heap) (locs1 : List Loc), t.heap = H1 → s.vm.Alike t.vm → post r u → B u t → H.size ≤ H1.size → (∀ q : Nat, q < H.size → ¬ A1 q → H1[q]? = H[q]?) → va_S A0 H0 H1 locs1 → W p l e R s m args below meth c H1 locs1 (cells + mc) (slots + ms) Q (F0 m (pc + 3) ls (.double r :: rest))) : W p l e R s m args below meth c H locs cells slots Q (F0 m pc ls st0) := by
  intro T hT X
  rcases hr T hT X with ⟨v, st₀, t, T', L, h0, X', hL, e1, e2, ⟨⟨r, u, hv, hp, hb⟩, hF⟩, st⟩ | ⟨q, st₀, t, T', L, E, ce, h0, X', hL, e1, e2, ⟨u, hp, hb, hF⟩, hce, hcv, hcl, st⟩
  · cases hv
    obtain ⟨k1, k2, k3⟩ := vx_keep h0 e1 hS hA hf hL hF
    obtain ⟨t2, a1, b1⟩ := kk r u t T'.heap (locs ++ L) e1.symm (by rw [← e2]; exact X'.warmed.alike) hp hb k1 k2 k3 T' rfl X'
    exact ⟨t2, st t2 a1, b1⟩
  · obtain ⟨k1, k2, k3⟩ := vx_keep h0 e1 hS hAX hf hL hF
    obtain ⟨t2, a1, b1⟩ := kx E ce q u t T'.heap (locs ++ L) e1.symm (by rw [← e2]; exact X'.warmed.alike) hp hb k1 k2 k3 (by rw [e1]; exact hce) hcv hcl T' rfl X'
    exact ⟨t2, st.trans a1, b1⟩
theorem vx_callv {S SX : Type} {post : S → Prop} {px : SX → Prop} {B : S → State → Prop} {BX : String → SX → State → Prop} {AX : Nat → Prop} (hr : vx_Run p l e R s m args below meth c H locs cells slots mc ms (F0 m pc ls st0) rest (va_Qv post B A1 a) (vx_X px BX AX) free) (hS : va_S A0 H0 H locs) (hA : ∀ q, q < H.size → A1 q → A0 q) (hf : ∀ q, free q → A0 q) (hAX : ∀ q, q < H.size → AX q → A0 q)
    (kx : ∀ (E : String) (ce : Cell) (q9 : Addr) (u : SX) (t : State) (H1 : Heap) (locs1 : List Loc), t.heap = H1 → s.vm.Alike t.vm → px u → BX E u t → H.size ≤ H1.size → (∀ q : Nat, q < H.size → ¬ AX q → H1[q]? = H[q]?) → va_S A0 H0 H1 locs1 → H1[q9]? = some ce → ce.vm = .none → s.vm.findClass E = some ce.cls → vx_W p l e R s m args below meth c H1 locs1 (cells + mc) (slots + ms) Q (F0 m pc ls rest) q9)
    (kk : ∀ (u : S) (t : State) (H1 : Heap) (locs1 : List Loc), t.heap = H1 → s.vm.Alike t.vm → post u → B u t → H.size ≤ H1.size → (∀ q : Nat, q < H.size → ¬ A1 q → H1[q]? = H[q]?) → va_S A0 H0 H1 locs1 → W p l e R s m args below meth c H1 locs1 (cells + mc) (slots + ms) Q (F0 m (pc + 3) ls (rest))) : W p l e R s m args below meth c H locs cells slots Q (F0 m pc ls st0) := by
  intro T hT X
  rcases hr T hT X with ⟨v, st₀, t, T', L, h0, X', hL, e1, e2, ⟨⟨u, hv, hp, hb⟩, hF⟩, st⟩ | ⟨q, st₀, t, T', L, E, ce, h0, X', hL, e1, e2, ⟨u, hp, hb, hF⟩, hce, hcv, hcl, st⟩
  · cases hv
    obtain ⟨k1, k2, k3⟩ := vx_keep h0 e1 hS hA hf hL hF
    obtain ⟨t2, a1, b1⟩ := kk u t T'.heap (locs ++ L) e1.symm (by rw [← e2]; exact X'.warmed.alike) hp hb k1 k2 k3 T' rfl X'
    exact ⟨t2, st t2 a1, b1⟩
  · obtain ⟨k1, k2, k3⟩ := vx_keep h0 e1 hS hAX hf hL hF
    obtain ⟨t2, a1, b1⟩ := kx E ce q u t T'.heap (locs ++ L) e1.symm (by rw [← e2]; exact X'.warmed.alike) hp hb k1 k2 k3 (by rw [e1]; exact hce) hcv hcl T' rfl X'
    exact ⟨t2, st.trans a1, b1⟩
/-- caught by the row x of this method's table; the rows ahead don't take it -/
theorem vx_catch {own name : String} {E : String} {ce : Cell} {q : Addr} (hown : s.vm.findClass own = some m.cls) (pre : List ExceptionTableEntry) (x : ExceptionTableEntry) (suf : List ExceptionTableEntry) (hsplit : c.exceptionTable.toList = pre ++ x :: suf)
    (hpass : ∀ z ∈ pre, covers z pc = false ∨ (z.catchType ≠ 0 ∧ ∃ nm : String, (Cond.classLink own z.catchType nm).before args s = true ∧ va_Nc E nm s)) (hx : covers x pc = true) (h0 : x.catchType ≠ 0)
    (hlink : (Cond.classLink own x.catchType name).before args s = true) (hcast : (Cond.castable E name).before args s = true) (hcell : H[q]? = some ce) (hv : ce.vm = .none) (hcl : s.vm.findClass E = some ce.cls)
    (kk : W p l e R s m args below meth c H locs cells slots Q (F0 m x.handlerPc ls [.ref q])) : vx_W p l e R s m args below meth c H locs cells slots Q (F0 m pc ls rest) q := by
  intro T hT X
  have hpl : e.platform.magicAccessors = ({} : Platform).magicAccessors := by rw [X.admits.platform]
  obtain ⟨c3, c4, hc3, hc4, hasg⟩ := Cond.castable_spec hcast
  cases Option.some.inj (hc3.symm.trans hcl)
  obtain ⟨c5, hc5, hcl5⟩ := Cond.classLink_spec hown hlink e.platform hpl
  cases Option.some.inj (hc4.symm.trans hc5)
  obtain ⟨vm', X', st⟩ := X.thenCaughtThrough q (g := F0 m pc ls rest) rfl (Steps.refl _) (by rw [hT]; exact hcell) (by rw [hv]; rfl) (by obtain ⟨k9, h9, -⟩ := Vm.findClass_spec hcl; exact ⟨k9, h9⟩) pre x suf hsplit
    (fun z hz => by
      rcases hpass z hz with h | ⟨hz0, nm, hl1, hn1⟩
      · exact Or.inl h
      · obtain ⟨c6, hc6, hcl6⟩ := Cond.classLink_spec hown hl1 e.platform hpl
        obtain ⟨a8, b8, h1, h2, h3⟩ := hn1
        cases Option.some.inj (h1.symm.trans hcl)
        cases Option.some.inj (h2.symm.trans hc6)
        exact Or.inr ⟨hz0, _, hcl6, h3⟩) hx (Or.inr ⟨h0, c4, hcl5, hasg⟩)
  obtain ⟨t, a1, b1⟩ := kk (T.setVm vm') hT X'
  exact ⟨t, st.trans a1, b1⟩
end Rows
section Ends
variable {p : Program} {l : Launch} {e : Env} {R : Room} {s : State} {m : MethodId} {args : Array Value} {below : List Frame} {meth : Method} {c : Code} {H : Heap} {locs : List Loc} {cells slots : Nat} {Q : State → Prop}
variable {mc ms : Nat} {free : Addr → Prop} {A0 A1 : Nat → Prop} {H0 : Heap} {a : Array Value} {ls : Array Slot} {st0 rest : List Value}
variable {Qc : Array Value → State → Outcome → State → Prop} {XC : String → State → State → Prop}
/-- what a body that may throw owes at its end -/
def vx_MQ (below : List Frame) (Qc : Array Value → State → Outcome → State → Prop) (XC : String → State → State → Prop) (a : Array Value) (s : State) (mc ms : Nat) (free : Addr → Prop) : State → Prop := fun t =>
  ∃ o, t.status = .running ∧ Ended t below o ∧ vx_Q Qc XC mc ms free a s o t
theorem vx_ret {g : JFrame} {mc ms : Nat} (k : W p l e R s m args below meth c H locs cells slots (MQ below Qc args s mc ms free) g) : W p l e R s m args below meth c H locs cells slots (vx_MQ below Qc XC args s mc ms free) g := by
  intro T hT X
  obtain ⟨t, a1, o, b1, b2, b3, b4⟩ := k T hT X
  exact ⟨t, a1, o, b1, b2, Or.inl ⟨b3, b4⟩⟩
/-- not caught here: it goes on to the caller -/
theorem vx_widen {g : JFrame} {q : Addr} {k n : Nat} (h1 : cells ≤ k) (h2 : slots ≤ n) (kk : vx_W p l e R s m args below meth c H locs k n Q g q) : vx_W p l e R s m args below meth c H locs cells slots Q g q := fun T hT X => kk T hT (stand_widen X h1 h2)
theorem vx_out {pc : Nat} {E : String} {ce : Cell} {q : Addr} {mc ms : Nat} (hout : ∀ x ∈ c.exceptionTable.toList, covers x pc = false) (hlocks : meth.locks = false) (hcell : H[q]? = some ce) (hv : ce.vm = .none) (hcl : s.vm.findClass E = some ce.cls)
    (hx : ∀ t : State, t.heap = H → s.vm.Alike t.vm → XC E s t) (hf : ∀ z ∈ locs, free z.base) (hc : cells ≤ mc) (hs : slots ≤ ms) :
    vx_W p l e R s m args below meth c H locs cells slots (vx_MQ below Qc XC args s mc ms free) (F0 m pc ls rest) q := by
  intro T hT X
  obtain ⟨st1, hrun, hend, hW, hsm⟩ := X.leaveThrown q (g := F0 m pc ls rest) rfl rfl rfl hout hlocks
  have hcell9 : (T.setFrames (.throwing q :: below)).heap[q]? = some ce := by
    show T.heap[q]? = some ce
    rw [hT]; exact hcell
  exact ⟨_, st1, .threw q, hrun, hend, Or.inr ⟨q, rfl, E, ce, locs, hx _ hT hW.alike, hcell9, hv, hcl, hW, hsm.mono hc hs, hf⟩⟩
theorem vx_frame {U : State} {k n : Nat} (h : s.sameButNew ({ U with vm := s.vm } : State) locs k n) : s.heap.size ≤ U.heap.size ∧ ∀ q : Nat, q < s.heap.size → (∀ z ∈ locs, z.base ≠ q) → U.heap[q]? = s.heap[q]? := by
  obtain ⟨-, h2, -, -, -, h6⟩ := h
  refine ⟨h2, fun q hq hz => ?_⟩
  obtain ⟨c9, e1, e2, e3, e4⟩ := h6 q _ (Array.getElem?_eq_getElem hq)
  have hs : c9.slots = (s.heap[q]).slots := Array.ext_getElem? fun i => e4 i fun hm => hz _ hm rfl
  have h9 : c9 = s.heap[q] := by
    rw [hs] at e2
    exact e2
  have e5 : U.heap[q]? = some c9 := e1
  rw [e5, h9, Array.getElem?_eq_getElem hq]
/-- the words of a throw but the four that speak of the heap -/
def vx_no (w : Cond) : Bool := decide (w ≠ .isRef (.static Bundle.tN "UNASSIGNED_STACK" Bundle.steD)) && decide (w ≠ .isRef (.static Bundle.tN "SUPPRESSED_SENTINEL" Bundle.listD)) && decide (w ≠ .laysStatic Bundle.tN "UNASSIGNED_STACK" Bundle.steD) && decide (w ≠ .laysStatic Bundle.tN "SUPPRESSED_SENTINEL" Bundle.listD)
def vx_at0 (own : String) (ic : Nat) (X : String) (names : List String) : List Cond := (Bundle.ownAtoms0 own ic X names).filter vx_no
def vx_atS (own : String) (ic : Nat) (X : String) (names : List String) : List Cond := (Bundle.ownAtoms own ic X names).filter vx_no
/-- a word that the tables alone decide, or a good one -/
def vx_ot (w : Cond) : Bool := w.onTables || goodWord w
theorem vx_ot_at {args a' : Array Value} {s U : State} {w : Cond} (hW : s.WarmedH U.vm) (hvm : s.vm = U.vm) (hg : vx_ot w = true) (h : w.before args s = true) : w.before a' U = true := by
  simp only [vx_ot, Bool.or_eq_true] at hg
  rcases hg with hg | hg
  · exact va_tabs hg hvm h
  · exact word_at hW (good_of_word hg) h
/-- a list's words: the good ones out of the method's own list, the others by premises of their own -/
theorem vx_hat {args : Array Value} {s : State} {L B : List Cond} (h1 : ∀ w ∈ L.filter goodWord, w.before args s = true) (h2 : ∀ w ∈ L.filter (fun w => !goodWord w), w ∈ B) (h3 : ∀ w ∈ B, w.before args s = true) : ∀ w ∈ L, w.before args s = true := by
  intro w hw
  by_cases g : goodWord w = true
  · exact h1 w (List.mem_filter.mpr ⟨hw, g⟩)
  · refine h3 w (h2 w (List.mem_filter.mpr ⟨hw, ?_⟩))
    show (!goodWord w) = true
    cases hgw : goodWord w
    · rfl
    · exact absurd hgw g
theorem vx_c {args : Array Value} {s : State} {w : Cond} {B : List Cond} (h : w.before args s = true) (t : ∀ w ∈ B, w.before args s = true) : ∀ w' ∈ w :: B, w'.before args s = true := fun w' h' => (List.mem_cons.mp h').elim (fun e => by rw [e]; exact h) (t w')
theorem vx_n {args : Array Value} {s : State} : ∀ w ∈ ([] : List Cond), w.before args s = true := fun _ h => nomatch h
theorem vx_own {args : Array Value} {s : State} {L : List Cond} (h1 : ∀ w ∈ L.filter vx_no, w.before args s = true)
    (hU : (Cond.isRef (.static Bundle.tN "UNASSIGNED_STACK" Bundle.steD)).before args s = true) (hN : (Cond.isRef (.static Bundle.tN "SUPPRESSED_SENTINEL" Bundle.listD)).before args s = true)
    (lU : (Cond.laysStatic Bundle.tN "UNASSIGNED_STACK" Bundle.steD).before args s = true) (lN : (Cond.laysStatic Bundle.tN "SUPPRESSED_SENTINEL" Bundle.listD).before args s = true) : ∀ w ∈ L, w.before args s = true := by
  intro w hw
  by_cases e1 : w = .isRef (.static Bundle.tN "UNASSIGNED_STACK" Bundle.steD)
  · rw [e1]; exact hU
  · by_cases e2 : w = .isRef (.static Bundle.tN "SUPPRESSED_SENTINEL" Bundle.listD)
    · rw [e2]; exact hN
    · by_cases e3 : w = .laysStatic Bundle.tN "UNASSIGNED_STACK" Bundle.steD
      · rw [e3]; exact lU
      · by_cases e4 : w = .laysStatic Bundle.tN "SUPPRESSED_SENTINEL" Bundle.listD
        · rw [e4]; exact lN
        · exact h1 w (List.mem_filter.mpr ⟨hw, by unfold vx_no; rw [decide_eq_true e1, decide_eq_true e2, decide_eq_true e3, decide_eq_true e4]; rfl⟩)
/-- where a static field lies, its class's statics cell in H -/
def vx_L (C n d : String) (A : Nat → Prop) (U : State) (H : Heap) : Prop := ∃ (c : ClassId) (k : Class) (i : Nat) (f : Field) (a : Nat) (cell : Cell), U.vm.findClass C = some c ∧ U.fieldFound? C n d = some (c, k, i, f) ∧ f.isStatic = true ∧ k.statics = some a ∧ H[a]? = some cell ∧ cell.vm.isStatics = true ∧ cell.cls = c ∧ f.slot < cell.slots.size ∧ k.staticTypes[f.slot]? = some f.type ∧ ¬ A a
theorem vx_L.moved {C n d : String} {A : Nat → Prop} {u U : State} {H : Heap} (hvm : u.vm.Alike U.vm) (h : vx_L C n d A u H) : vx_L C n d A U H := by
  obtain ⟨c, k, i, f, a, cell, h1, h2, h3, h4, h5, h6, h7, h8, h9, h10⟩ := h
  obtain ⟨k', hi', he⟩ := State.fieldFound?_setVm hvm h2
  exact ⟨c, k', i, f, a, cell, by rw [hvm.findClass]; exact h1, hi', h3, by rw [he]; exact h4, h5, h6, h7, h8, by rw [he]; exact h9, h10⟩
theorem vx_L.kept {C n d : String} {A : Nat → Prop} {U : State} {H H1 : Heap} (h : vx_L C n d A U H) (hq : ∀ a : Nat, a < H.size → ¬ A a → H1[a]? = H[a]?) : vx_L C n d A U H1 := by
  obtain ⟨c, k, i, f, a, cell, h1, h2, h3, h4, h5, h6, h7, h8, h9, h10⟩ := h
  exact ⟨c, k, i, f, a, cell, h1, h2, h3, h4, by rw [hq a (Array.getElem?_eq_some_iff.mp h5).1 h10]; exact h5, h6, h7, h8, h9, h10⟩
theorem vx_L.narrow {C n d : String} {A B : Nat → Prop} {U : State} {H : Heap} (h : vx_L C n d A U H) (hAB : ∀ q, B q → A q) : vx_L C n d B U H := by
  obtain ⟨c, k, i, f, a, cell, h1, h2, h3, h4, h5, h6, h7, h8, h9, h10⟩ := h
  exact ⟨c, k, i, f, a, cell, h1, h2, h3, h4, h5, h6, h7, h8, h9, fun z => h10 (hAB _ z)⟩
theorem vx_L.word {C n d : String} {A : Nat → Prop} {s : State} {args : Array Value} (h : vx_L C n d A s s.heap) : (Cond.laysStatic C n d).before args s = true := by
  obtain ⟨c, k, i, f, a, cell, h1, h2, h3, h4, h5, h6, h7, h8, h9, -⟩ := h
  show (Cond.laysStatic C n d).holds args s none s [] = true
  exact Cond.laysStatic_of h1 h2 h3 h4 h5 h6 h7 h8 h9
/-- .. and what it holds: null or some reference -/
def vx_Zq (C n d : String) (A : Nat → Prop) (U : State) (H : Heap) : Prop := va_Zq C n d A U H ∧ vx_L C n d A U H
theorem vx_Zq.moved {C n d : String} {A : Nat → Prop} {u U : State} {H : Heap} (hvm : u.vm.Alike U.vm) (h : vx_Zq C n d A u H) : vx_Zq C n d A U H := ⟨va_Zq.moved hvm h.1, vx_L.moved hvm h.2⟩
theorem vx_Zq.kept {C n d : String} {A : Nat → Prop} {U : State} {H H1 : Heap} (h : vx_Zq C n d A U H) (hq : ∀ a : Nat, a < H.size → ¬ A a → H1[a]? = H[a]?) : vx_Zq C n d A U H1 := ⟨va_Zq.kept h.1 hq, vx_L.kept h.2 hq⟩
theorem vx_Zq.narrow {C n d : String} {A B : Nat → Prop} {U : State} {H : Heap} (h : vx_Zq C n d A U H) (hAB : ∀ q, B q → A q) : vx_Zq C n d B U H := ⟨va_Zq.narrow h.1 hAB, vx_L.narrow h.2 hAB⟩
theorem vx_Zqof {args : Array Value} {s : State} {C n d : String} {A : Nat → Prop} (hl : (Cond.laysStatic C n d).before args s = true) (hini : (Cond.initialized C).before args s = true) (h : (Cond.isRef (.static C n d)).before args s = true) (hA : ∀ a : Nat, a < s.heap.size → ¬ A a) : vx_Zq C n d A s s.heap := by
  refine ⟨va_Zqof hl hini h hA, ?_⟩
  obtain ⟨c, k, i, f, a, cell, h1, h2, h3, h4, h5, h6, h7, h8, h9⟩ := Cond.laysStatic_spec hl
  exact ⟨c, k, i, f, a, cell, h1, h2, h3, h4, h5, h6, h7, h8, h9, hA a (Array.getElem?_eq_some_iff.mp h5).1⟩
theorem vx_isRef {C n d : String} {v : Value} {A : Nat → Prop} {s : State} {args : Array Value} (h : va_Z C n d v A s s.heap) (hv : v.isRef = true) : (Cond.isRef (.static C n d)).before args s = true := by
  obtain ⟨cf, kf, fi, f, a, cell, h1, h2, h3, h4, h5, h6, h7, -⟩ := h
  have he : (Term.static C n d).eval args s none [] s = some v := by
    simp [Term.eval, State.fieldNamed?, h1, h2, h4, h5, h6, h7]
  simp only [Cond.before, Cond.holds, Cond.value, he]
  cases v <;> simp_all [Value.isRef]
theorem vx_isRefq {C n d : String} {A : Nat → Prop} {s : State} {args : Array Value} (h : va_Zq C n d A s s.heap) : (Cond.isRef (.static C n d)).before args s = true := by
  rcases h with h | ⟨t, h⟩
  · exact vx_isRef h rfl
  · exact vx_isRef h rfl
/-- the same frame, seen from here: as if the method were called anew in this heap -/
theorem vx_rebase {T : State} (X : Stand p l e R s m args below meth c T locs cells slots) {R' : Room} (hf : R'.frames ≤ R.frames) (hl : R'.locals ≤ R.locals) (hc : cells + R'.cells ≤ R.cells) (hs : slots + R'.slots ≤ R.slots) :
    Stand p l e R' ((T.setVm s.vm).setFrames (.invoking m args :: below)) m args below meth c T [] 0 0 := by
  have htop : (T.setVm s.vm).topJava?.isSome := X.here.top
  have hF : ((T.setVm s.vm).setFrames (.invoking m args :: below)).frames = .invoking m args :: below := State.frames_setFrames _ (State.cur_lt_of_top htop)
  obtain ⟨g₀, hg0⟩ := Option.isSome_iff_exists.mp htop
  obtain ⟨r, hr⟩ := State.topJava?_eq_some.mp hg0
  have hl9 : e.platform.stackLimits (T.setVm s.vm).me = e.platform.stackLimits s.me := X.limits
  have hb9 : (T.setVm s.vm).me.stackBytes = s.me.stackBytes := X.bytes
  refine ⟨X.admits, X.cas, X.clock, hF, ?_, X.hears, X.method, X.code, X.here, X.tail, X.warmed, ?_, ?_, ?_⟩
  · have h := X.room
    have hU : ((T.setVm s.vm).setFrames (.invoking m args :: below)).localsInUse = s.localsInUse := by
      rw [State.localsInUse_invoking hF (meth := meth) (c := c) X.method X.code, State.localsInUse_invoking X.frames X.method X.code]
    simp only [State.hasRoom, Bool.and_eq_true, decide_eq_true_eq] at h ⊢
    obtain ⟨⟨⟨⟨h1, h2, h3, h4, h5, h6⟩, h7⟩, h8⟩, h9⟩ := h
    rw [X.frames, List.length_cons] at h2 h3
    have q1 := X.heapSize
    have q2 := X.used
    simp only [hF, hU, List.length_cons, State.stackLimits_setFrames, State.stackBytes_setFrames, hl9, hb9]
    refine ⟨⟨⟨⟨by omega, by omega, by omega, by omega, by omega, h6⟩, ?_⟩, ?_⟩, X.book⟩
    · show T.heap.size + R'.cells ≤ e.platform.maxCells
      omega
    · show T.slotsUsed + R'.slots ≤ e.platform.maxSlots
      omega
  · rw [State.stackLimits_setFrames]; rfl
  · rw [State.stackBytes_setFrames]; rfl
  · refine ⟨?_, Nat.le_refl _, Nat.le_refl _, ?_, ?_, fun a c9 h9 => ⟨c9, h9, rfl, rfl, fun _ _ => rfl⟩⟩
    · obtain ⟨t, ht, -⟩ := State.frames_cons hr
      show T.setVm s.vm = { ((T.setVm s.vm).setFrames (.invoking m args :: below)).setFrames (T.setVm s.vm).frames with heap := T.heap, slotsUsed := T.slotsUsed }
      rw [State.setFrames_setFrames, State.setFrames_self ht]
      rfl
    · show T.slotsUsed = T.slotsUsed + ((T.heap.toList.drop T.heap.size).map (·.slots.size)).sum
      rw [List.drop_eq_nil_of_le (Nat.le_of_eq Array.length_toList)]
      rfl
    · show ((T.heap.toList.drop T.heap.size).map (·.slots.size)).sum ≤ 0
      rw [List.drop_eq_nil_of_le (Nat.le_of_eq Array.length_toList)]
      exact Nat.le_refl _
/-- 'throw new E()': new; dup; invokespecial; athrow -/
theorem vx_throw0 {cc : ByteArray} {pc : Nat} (hexec : p.tables.exec = Jvm.exec) (hb : c.code = cc) (hl : l.stackTraces = false) {own cls : String} {names : List String} {ik ic mc ms : Nat} {A : Nat → Prop}
    (hown : s.vm.findClass own = some m.cls) (hcls : Bundle.fit cls = true) (hnames : ∀ n ∈ names, Bundle.fit n = true)
    (hk : (Cond.classLink own ik cls).before args s = true) (hini : (Cond.initialized cls).before args s = true) (hat : ∀ w ∈ vx_at0 own ic cls names, w.before args s = true)
    (hgood : ∀ w ∈ Cond.classLink own ik cls :: Cond.initialized cls :: vx_at0 own ic cls names, vx_ot w = true)
    (hU : vx_Zq Bundle.tN "UNASSIGNED_STACK" Bundle.steD A s s.heap) (hN : vx_Zq Bundle.tN "SUPPRESSED_SENTINEL" Bundle.listD A s s.heap) (hS : va_S A s.heap H locs) (hsize : ls.size = c.maxLocals)
    (d0 : decode cc pc = .ok (.new ik, 3)) (d3 : decode cc (pc + 3) = .ok (.dup, 1)) (d4 : decode cc (pc + 4) = .ok (.invokespecial ic, 3)) (d7 : decode cc (pc + 7) = .ok (.athrow, 1))
    (hout : ∀ x ∈ c.exceptionTable.toList, covers x (pc + 7) = false)
    (hRframes : names.length + 3 < R.frames) (hRlocals : (rest.map fun v => v.category).sum + (13 * (names.length + 1) + 42) ≤ R.locals) (hRcells : cells + 1 ≤ R.cells) (hRslots : slots + 6 ≤ R.slots) (hlocks : meth.locks = false)
    (hx : ∀ t : State, s.vm.Alike t.vm → H.size ≤ t.heap.size → (∀ q : Nat, q < H.size → t.heap[q]? = H[q]?) → XC cls s t)
    (hf : ∀ z ∈ locs, free z.base) (hc : cells + 1 ≤ mc) (hs : slots + 6 ≤ ms) :
    W p l e R s m args below meth c H locs cells slots (vx_MQ below Qc XC args s mc ms free) (F0 m pc ls rest) := by
  intro T hT X
  have htr : e.platform.stackTraces = false := (show e.platform.stackTraces = l.stackTraces by rw [X.admits.platform]).trans hl
  have Y := vx_rebase X (R' := { frames := R.frames, locals := R.locals, cells := 1, slots := 6 }) (Nat.le_refl _) (Nat.le_refl _) hRcells hRslots
  obtain ⟨s', hA⟩ : ∃ z, z = (T.setVm s.vm).setFrames (.invoking m args :: below) := ⟨_, rfl⟩
  rw [← hA] at Y
  have hvm : s'.vm = s.vm := by rw [hA]; rfl
  have hhp : s'.heap = H := by rw [hA]; exact hT
  have hW0 : s.WarmedH s'.vm := by rw [hvm]; exact State.WarmedH.refl s
  have hat' : ∀ w ∈ vx_at0 own ic cls names, w.before args s' = true := fun w hw => vx_ot_at hW0 hvm.symm (hgood w (List.mem_cons_of_mem _ (List.mem_cons_of_mem _ hw))) (hat w hw)
  have hk' : (Cond.classLink own ik cls).before args s' = true := vx_ot_at hW0 hvm.symm (hgood _ List.mem_cons_self) hk
  have hini' : (Cond.initialized cls).before args s' = true := vx_ot_at hW0 hvm.symm (hgood _ (List.mem_cons_of_mem _ List.mem_cons_self)) hini
  have hU' : vx_Zq Bundle.tN "UNASSIGNED_STACK" Bundle.steD A s' s'.heap := by rw [hhp]; exact vx_Zq.moved hW0.alike (hU.kept hS.2.1)
  have hN' : vx_Zq Bundle.tN "SUPPRESSED_SENTINEL" Bundle.listD A s' s'.heap := by rw [hhp]; exact vx_Zq.moved hW0.alike (hN.kept hS.2.1)
  have h : ∀ w ∈ Bundle.ownAtoms0 own ic cls names, w.before args s' = true := vx_own hat' (vx_isRefq hU'.1) (vx_isRefq hN'.1) hU'.2.word hN'.2.word
  have hown' : s'.vm.findClass own = some m.cls := by rw [hvm]; exact hown
  have hins : (Cond.instantiable cls 6).before args s' = true := h _ (by simp [Bundle.ownAtoms0])
  obtain ⟨vm₁, cX, kX, hfX, hkX, -, -, X₁, st1⟩ := Y.newCold hexec (own := own) (C := cls) (index := ik) (n := 6) hown' hk' hins hini'
    (g := F0 m pc ls rest) rfl (by rw [hb]; exact d0) (Nat.le_refl _) (Nat.le_refl _)
  generalize hT1 : (T.setVm vm₁).pushCell { cls := cX, slots := kX.instanceTypes.map defaultValue, vm := .none } = T1 at X₁ st1
  have hcat : (Value.ref T.heap.size).category = 1 := rfl
  have hcellA : T1.heap[T.heap.size]? = some (freshCell cX kX) := by rw [← hT1]; exact State.heap_pushCell_size _ _
  have d3' : decode c.code (pc + 3) = .ok (.dup, 1) := by rw [hb]; exact d3
  obtain ⟨U, hsteps, hrun, hend, hW, hsame, ce, hce, hO⟩ := X₁.ctorThrow0 hexec htr (own := own) (cls := cls) (names := names) (ic := ic) hown' hcls hnames h (fun x hx => nomatch hx) hfX hkX hcellA (by rw [hhp, hT]; exact Nat.le_refl _)
    (g := { method := m, pc := pc + 4, locals := ls, stack := .ref T.heap.size :: .ref T.heap.size :: rest, locked := none }) rfl hsize rfl rfl (rest := rest) rfl
    (by rw [hb]; exact d4) (by rw [hb]; exact d7) hout hRframes (by simp only [List.map_cons, List.sum_cons, hcat]; omega) hlocks
  obtain ⟨f1, f2⟩ := vx_frame hsame
  rw [hhp] at f1 f2
  have hWs : s.WarmedH U.vm := State.WarmedH.trans hW0 hW
  have hcl : s.vm.findClass cls = some ce.cls := by
    have h9 := hO.cls
    rw [hvm] at h9
    exact h9
  have hall : s.sameButNew ({ U with vm := s.vm } : State) locs mc ms := by
    subst hA
    obtain ⟨e1, e2⟩ := hsame
    rw [State.setFrames_setFrames] at e1
    have h2 : (T.setVm s.vm).sameButNew ({ U with vm := s.vm } : State) [] (0 + 1) (0 + 6) := ⟨e1, e2⟩
    have h3 := X.same.trans h2
    rw [List.append_nil] at h3
    exact h3.mono hc hs
  refine ⟨U, ?_, .threw T.heap.size, hrun, hend, Or.inr ⟨T.heap.size, rfl, cls, ce, locs, hx U hWs.alike f1 (fun q hq => f2 q hq (fun z hz => nomatch hz)), hce, hO.vm, hcl, hWs, hall, hf⟩⟩
  refine st1 _ ?_
  show Steps p.tables e below (T1.setTop { method := m, pc := pc + 3, locals := ls, stack := .ref T.heap.size :: rest, locked := none }) _
  jvm_step X₁.here [X₁.here.top, hexec, d3', Value.category]
  exact hsteps
/-- 'throw new E("text")': new; dup; ldc; invokespecial; athrow -/
theorem vx_throwS {cc : ByteArray} {pc : Nat} (hexec : p.tables.exec = Jvm.exec) (hb : c.code = cc) (hl : l.stackTraces = false) {own cls text : String} {names : List String} {ik is ic mc ms sa : Nat} {A : Nat → Prop}
    (hown : s.vm.findClass own = some m.cls) (hcls : Bundle.fit cls = true) (hnames : ∀ n ∈ names, Bundle.fit n = true)
    (hk : (Cond.classLink own ik cls).before args s = true) (hini : (Cond.initialized cls).before args s = true) (hstr : vk_R own is text sa s) (hat : ∀ w ∈ vx_atS own ic cls names, w.before args s = true)
    (hgood : ∀ w ∈ Cond.classLink own ik cls :: Cond.initialized cls :: vx_atS own ic cls names, vx_ot w = true)
    (hU : vx_Zq Bundle.tN "UNASSIGNED_STACK" Bundle.steD A s s.heap) (hN : vx_Zq Bundle.tN "SUPPRESSED_SENTINEL" Bundle.listD A s s.heap) (hS : va_S A s.heap H locs) (hsize : ls.size = c.maxLocals)
    (d0 : decode cc pc = .ok (.new ik, 3)) (d3 : decode cc (pc + 3) = .ok (.dup, 1)) (d4 : decode cc (pc + 4) = .ok (.ldc is, 2)) (d6 : decode cc (pc + 6) = .ok (.invokespecial ic, 3)) (d9 : decode cc (pc + 9) = .ok (.athrow, 1))
    (hout : ∀ x ∈ c.exceptionTable.toList, covers x (pc + 9) = false)
    (hRframes : names.length + 3 < R.frames) (hRlocals : (rest.map fun v => v.category).sum + (13 * (names.length + 1) + 43) ≤ R.locals) (hRcells : cells + 1 ≤ R.cells) (hRslots : slots + 6 ≤ R.slots) (hlocks : meth.locks = false)
    (hx : ∀ t : State, s.vm.Alike t.vm → H.size ≤ t.heap.size → (∀ q : Nat, q < H.size → t.heap[q]? = H[q]?) → XC cls s t)
    (hf : ∀ z ∈ locs, free z.base) (hc : cells + 1 ≤ mc) (hs : slots + 6 ≤ ms) :
    W p l e R s m args below meth c H locs cells slots (vx_MQ below Qc XC args s mc ms free) (F0 m pc ls rest) := by
  intro T hT X
  have htr : e.platform.stackTraces = false := (show e.platform.stackTraces = l.stackTraces by rw [X.admits.platform]).trans hl
  have Y := vx_rebase X (R' := { frames := R.frames, locals := R.locals, cells := 1, slots := 6 }) (Nat.le_refl _) (Nat.le_refl _) hRcells hRslots
  obtain ⟨s', hA⟩ : ∃ z, z = (T.setVm s.vm).setFrames (.invoking m args :: below) := ⟨_, rfl⟩
  rw [← hA] at Y
  have hvm : s'.vm = s.vm := by rw [hA]; rfl
  have hhp : s'.heap = H := by rw [hA]; exact hT
  have hW0 : s.WarmedH s'.vm := by rw [hvm]; exact State.WarmedH.refl s
  have hat' : ∀ w ∈ vx_atS own ic cls names, w.before args s' = true := fun w hw => vx_ot_at hW0 hvm.symm (hgood w (List.mem_cons_of_mem _ (List.mem_cons_of_mem _ hw))) (hat w hw)
  have hk' : (Cond.classLink own ik cls).before args s' = true := vx_ot_at hW0 hvm.symm (hgood _ List.mem_cons_self) hk
  have hini' : (Cond.initialized cls).before args s' = true := vx_ot_at hW0 hvm.symm (hgood _ (List.mem_cons_of_mem _ List.mem_cons_self)) hini
  have hU' : vx_Zq Bundle.tN "UNASSIGNED_STACK" Bundle.steD A s' s'.heap := by rw [hhp]; exact vx_Zq.moved hW0.alike (hU.kept hS.2.1)
  have hN' : vx_Zq Bundle.tN "SUPPRESSED_SENTINEL" Bundle.listD A s' s'.heap := by rw [hhp]; exact vx_Zq.moved hW0.alike (hN.kept hS.2.1)
  have h : ∀ w ∈ Bundle.ownAtoms own ic cls names, w.before args s' = true := vx_own hat' (vx_isRefq hU'.1) (vx_isRefq hN'.1) hU'.2.word hN'.2.word
  have hown' : s'.vm.findClass own = some m.cls := by rw [hvm]; exact hown
  have hins : (Cond.instantiable cls 6).before args s' = true := h _ (by simp [Bundle.ownAtoms])
  obtain ⟨vm₁, cX, kX, hfX, hkX, -, -, X₁, st1⟩ := Y.newCold hexec (own := own) (C := cls) (index := ik) (n := 6) hown' hk' hins hini'
    (g := F0 m pc ls rest) rfl (by rw [hb]; exact d0) (Nat.le_refl _) (Nat.le_refl _)
  generalize hT1 : (T.setVm vm₁).pushCell { cls := cX, slots := kX.instanceTypes.map defaultValue, vm := .none } = T1 at X₁ st1
  have hcat : (Value.ref T.heap.size).category = 1 := rfl
  have hcellA : T1.heap[T.heap.size]? = some (freshCell cX kX) := by rw [← hT1]; exact State.heap_pushCell_size _ _
  have d3' : decode c.code (pc + 3) = .ok (.dup, 1) := by rw [hb]; exact d3
  have d4' : decode c.code (pc + 4) = .ok (.ldc is, 2) := by rw [hb]; exact d4
  have hstr' : vk_R own is text sa s' := vk_R.warm hW0 hstr
  obtain ⟨U, hsteps, hrun, hend, hW, hsame, ce, hce, hO⟩ := X₁.ctorThrowS hexec htr (own := own) (cls := cls) (names := names) (ic := ic) hown' hcls hnames h (fun x hx => nomatch hx) hfX hkX hcellA (by rw [hhp, hT]; exact Nat.le_refl _) (msg := .ref sa) rfl
    (g := { method := m, pc := pc + 6, locals := ls, stack := .ref sa :: .ref T.heap.size :: .ref T.heap.size :: rest, locked := none }) rfl hsize rfl rfl (rest := rest) rfl
    (by rw [hb]; exact d6) (by rw [hb]; exact d9) hout hRframes (by simp only [List.map_cons, List.sum_cons, hcat]; omega) hlocks
  obtain ⟨f1, f2⟩ := vx_frame hsame
  rw [hhp] at f1 f2
  have hWs : s.WarmedH U.vm := State.WarmedH.trans hW0 hW
  have hcl : s.vm.findClass cls = some ce.cls := by
    have h9 := hO.cls
    rw [hvm] at h9
    exact h9
  have hall : s.sameButNew ({ U with vm := s.vm } : State) locs mc ms := by
    subst hA
    obtain ⟨e1, e2⟩ := hsame
    rw [State.setFrames_setFrames] at e1
    have h2 : (T.setVm s.vm).sameButNew ({ U with vm := s.vm } : State) [] (0 + 1) (0 + 6) := ⟨e1, e2⟩
    have h3 := X.same.trans h2
    rw [List.append_nil] at h3
    exact h3.mono hc hs
  refine ⟨U, ?_, .threw T.heap.size, hrun, hend, Or.inr ⟨T.heap.size, rfl, cls, ce, locs, hx U hWs.alike f1 (fun q hq => f2 q hq (fun z hz => nomatch hz)), hce, hO.vm, hcl, hWs, hall, hf⟩⟩
  refine st1 _ ?_
  show Steps p.tables e below (T1.setTop { method := m, pc := pc + 3, locals := ls, stack := .ref T.heap.size :: rest, locked := none }) _
  jvm_step X₁.here [X₁.here.top, hexec, d3', Value.category]
  exact X₁.ldcString hexec (own := own) (text := text) (index := is) (a := sa) hown' hstr'.1 hstr'.2
    (g := { method := m, pc := pc + 4, locals := ls, stack := .ref T.heap.size :: .ref T.heap.size :: rest, locked := none }) rfl d4' _ hsteps
/-- 'throw new E("text")', the text by a wide index -/
theorem vx_throwSW {cc : ByteArray} {pc : Nat} (hexec : p.tables.exec = Jvm.exec) (hb : c.code = cc) (hl : l.stackTraces = false) {own cls text : String} {names : List String} {ik is ic mc ms sa : Nat} {A : Nat → Prop}
    (hown : s.vm.findClass own = some m.cls) (hcls : Bundle.fit cls = true) (hnames : ∀ n ∈ names, Bundle.fit n = true)
    (hk : (Cond.classLink own ik cls).before args s = true) (hini : (Cond.initialized cls).before args s = true) (hstr : vk_R own is text sa s) (hat : ∀ w ∈ vx_atS own ic cls names, w.before args s = true)
    (hgood : ∀ w ∈ Cond.classLink own ik cls :: Cond.initialized cls :: vx_atS own ic cls names, vx_ot w = true)
    (hU : vx_Zq Bundle.tN "UNASSIGNED_STACK" Bundle.steD A s s.heap) (hN : vx_Zq Bundle.tN "SUPPRESSED_SENTINEL" Bundle.listD A s s.heap) (hS : va_S A s.heap H locs) (hsize : ls.size = c.maxLocals)
    (d0 : decode cc pc = .ok (.new ik, 3)) (d3 : decode cc (pc + 3) = .ok (.dup, 1)) (d4 : decode cc (pc + 4) = .ok (.ldc_w is, 3)) (d7 : decode cc (pc + 7) = .ok (.invokespecial ic, 3)) (d10 : decode cc (pc + 10) = .ok (.athrow, 1))
    (hout : ∀ x ∈ c.exceptionTable.toList, covers x (pc + 10) = false)
    (hRframes : names.length + 3 < R.frames) (hRlocals : (rest.map fun v => v.category).sum + (13 * (names.length + 1) + 43) ≤ R.locals) (hRcells : cells + 1 ≤ R.cells) (hRslots : slots + 6 ≤ R.slots) (hlocks : meth.locks = false)
    (hx : ∀ t : State, s.vm.Alike t.vm → H.size ≤ t.heap.size → (∀ q : Nat, q < H.size → t.heap[q]? = H[q]?) → XC cls s t)
    (hf : ∀ z ∈ locs, free z.base) (hc : cells + 1 ≤ mc) (hs : slots + 6 ≤ ms) :
    W p l e R s m args below meth c H locs cells slots (vx_MQ below Qc XC args s mc ms free) (F0 m pc ls rest) := by
  intro T hT X
  have htr : e.platform.stackTraces = false := (show e.platform.stackTraces = l.stackTraces by rw [X.admits.platform]).trans hl
  have Y := vx_rebase X (R' := { frames := R.frames, locals := R.locals, cells := 1, slots := 6 }) (Nat.le_refl _) (Nat.le_refl _) hRcells hRslots
  obtain ⟨s', hA⟩ : ∃ z, z = (T.setVm s.vm).setFrames (.invoking m args :: below) := ⟨_, rfl⟩
  rw [← hA] at Y
  have hvm : s'.vm = s.vm := by rw [hA]; rfl
  have hhp : s'.heap = H := by rw [hA]; exact hT
  have hW0 : s.WarmedH s'.vm := by rw [hvm]; exact State.WarmedH.refl s
  have hat' : ∀ w ∈ vx_atS own ic cls names, w.before args s' = true := fun w hw => vx_ot_at hW0 hvm.symm (hgood w (List.mem_cons_of_mem _ (List.mem_cons_of_mem _ hw))) (hat w hw)
  have hk' : (Cond.classLink own ik cls).before args s' = true := vx_ot_at hW0 hvm.symm (hgood _ List.mem_cons_self) hk
  have hini' : (Cond.initialized cls).before args s' = true := vx_ot_at hW0 hvm.symm (hgood _ (List.mem_cons_of_mem _ List.mem_cons_self)) hini
  have hU' : vx_Zq Bundle.tN "UNASSIGNED_STACK" Bundle.steD A s' s'.heap := by rw [hhp]; exact vx_Zq.moved hW0.alike (hU.kept hS.2.1)
  have hN' : vx_Zq Bundle.tN "SUPPRESSED_SENTINEL" Bundle.listD A s' s'.heap := by rw [hhp]; exact vx_Zq.moved hW0.alike (hN.kept hS.2.1)
  have h : ∀ w ∈ Bundle.ownAtoms own ic cls names, w.before args s' = true := vx_own hat' (vx_isRefq hU'.1) (vx_isRefq hN'.1) hU'.2.word hN'.2.word
  have hown' : s'.vm.findClass own = some m.cls := by rw [hvm]; exact hown
  have hins : (Cond.instantiable cls 6).before args s' = true := h _ (by simp [Bundle.ownAtoms])
  obtain ⟨vm₁, cX, kX, hfX, hkX, -, -, X₁, st1⟩ := Y.newCold hexec (own := own) (C := cls) (index := ik) (n := 6) hown' hk' hins hini'
    (g := F0 m pc ls rest) rfl (by rw [hb]; exact d0) (Nat.le_refl _) (Nat.le_refl _)
  generalize hT1 : (T.setVm vm₁).pushCell { cls := cX, slots := kX.instanceTypes.map defaultValue, vm := .none } = T1 at X₁ st1
  have hcat : (Value.ref T.heap.size).category = 1 := rfl
  have hcellA : T1.heap[T.heap.size]? = some (freshCell cX kX) := by rw [← hT1]; exact State.heap_pushCell_size _ _
  have d3' : decode c.code (pc + 3) = .ok (.dup, 1) := by rw [hb]; exact d3
  have d4' : decode c.code (pc + 4) = .ok (.ldc_w is, 3) := by rw [hb]; exact d4
  have hstr' : vk_R own is text sa s' := vk_R.warm hW0 hstr
  obtain ⟨U, hsteps, hrun, hend, hW, hsame, ce, hce, hO⟩ := X₁.ctorThrowS hexec htr (own := own) (cls := cls) (names := names) (ic := ic) hown' hcls hnames h (fun x hx => nomatch hx) hfX hkX hcellA (by rw [hhp, hT]; exact Nat.le_refl _) (msg := .ref sa) rfl
    (g := { method := m, pc := pc + 7, locals := ls, stack := .ref sa :: .ref T.heap.size :: .ref T.heap.size :: rest, locked := none }) rfl hsize rfl rfl (rest := rest) rfl
    (by rw [hb]; exact d7) (by rw [hb]; exact d10) hout hRframes (by simp only [List.map_cons, List.sum_cons, hcat]; omega) hlocks
  obtain ⟨f1, f2⟩ := vx_frame hsame
  rw [hhp] at f1 f2
  have hWs : s.WarmedH U.vm := State.WarmedH.trans hW0 hW
  have hcl : s.vm.findClass cls = some ce.cls := by
    have h9 := hO.cls
    rw [hvm] at h9
    exact h9
  have hall : s.sameButNew ({ U with vm := s.vm } : State) locs mc ms := by
    subst hA
    obtain ⟨e1, e2⟩ := hsame
    rw [State.setFrames_setFrames] at e1
    have h2 : (T.setVm s.vm).sameButNew ({ U with vm := s.vm } : State) [] (0 + 1) (0 + 6) := ⟨e1, e2⟩
    have h3 := X.same.trans h2
    rw [List.append_nil] at h3
    exact h3.mono hc hs
  refine ⟨U, ?_, .threw T.heap.size, hrun, hend, Or.inr ⟨T.heap.size, rfl, cls, ce, locs, hx U hWs.alike f1 (fun q hq => f2 q hq (fun z hz => nomatch hz)), hce, hO.vm, hcl, hWs, hall, hf⟩⟩
  refine st1 _ ?_
  show Steps p.tables e below (T1.setTop { method := m, pc := pc + 3, locals := ls, stack := .ref T.heap.size :: rest, locked := none }) _
  jvm_step X₁.here [X₁.here.top, hexec, d3', Value.category]
  exact X₁.ldcStringW hexec (own := own) (text := text) (index := is) (a := sa) hown' hstr'.1 hstr'.2
    (g := { method := m, pc := pc + 4, locals := ls, stack := .ref T.heap.size :: .ref T.heap.size :: rest, locked := none }) rfl d4' _ hsteps
end Ends
section Bodies
variable {l : Launch}
theorem vx_ofW {y : MethodName} {ws ws' : List Cond} {rm : Room} {Pc : Array Value → State → Prop} {Qc : Array Value → State → Outcome → State → Prop} {XC : String → State → State → Prop} {mc ms : Nat} {free : Addr → Prop} {cc : ByteArray} {maxL : Nat} {ret : Option FieldType}
    (hy : plainName y.cls = true) (hw : ws = Cond.code y cc maxL ret :: ws')
    (body : ∀ p e s m args below meth c s₁, BodyLoose p l y (headSpec ws rm) cc maxL ret e s m args below meth c s₁ → c.maxLocals = maxL → (∀ x ∈ c.exceptionTable.toList, False) → Pc args s →
      W p l e (headSpec ws rm).room s m args below meth c s.heap [] 0 0 (vx_MQ below Qc XC args s mc ms free) (entryFrame m args maxL)) : vx_Met l y ws rm Pc Qc XC mc ms free := by
  refine MetFree.of_bodyS (code := cc) (maxLocals := maxL) (ret := ret) hy ?_ ?_
  · intro args s m h hn
    obtain ⟨meth, c, h1, h2, h3, h4, h5, h6, -, -⟩ := Cond.code_spec hn (atoms_spec (ws := ws) h _ (by rw [hw]; exact List.mem_cons_self))
    exact ⟨meth, c, h1, h2, h3, h4, h5, h6⟩
  · intro p e s m args below meth c s₁ B hml hP _
    have hh0 : s₁.heap = s.heap := by rw [B.state]; rfl
    have ht : ∀ x ∈ c.exceptionTable.toList, False := by
      obtain ⟨meth9, c9, h1, h2, -, -, -, -, h7, -⟩ := Cond.code_spec B.named (atoms_spec (ws := ws) B.pre _ (by rw [hw]; exact List.mem_cons_self))
      cases Option.some.inj (h1.symm.trans B.method)
      cases Option.some.inj (h2.symm.trans (Stand.of_body B).code)
      intro x hx
      rw [Array.isEmpty_iff.mp h7] at hx
      cases hx
    obtain ⟨t, a1, o, b1, b2, b3⟩ := body p e s m args below meth c s₁ B hml ht hP s₁ hh0 (Stand.of_body B)
    exact ⟨t, o, a1, b1, b2, b3⟩
/-- the table of a body with handlers -/
theorem vx_table {p : Program} {x y : MethodName} {S : Spec} {cc bytes : ByteArray} {maxL maxL' : Nat} {ret ret' : Option FieldType} {e : Env} {s s₁ : State} {m : MethodId} {args : Array Value} {below : List Frame} {meth : Method} {c : Code} {hh : List (Nat × Nat × Nat × Nat)}
    (B : BodyLoose p l y S cc maxL ret e s m args below meth c s₁) (h : (Cond.codeWith y bytes maxL' ret' hh).before args s = true) : c.exceptionTable.toList = tableOf hh := by
  obtain ⟨m9, meth9, c9, hn9, h1, h2, -, -, h6, -⟩ := Cond.codeWith_spec h
  cases Option.some.inj (hn9.symm.trans B.named)
  cases Option.some.inj (h1.symm.trans B.method)
  cases Option.some.inj (h2.symm.trans (Stand.of_body B).code)
  rw [← h6, table_eq]
end Bodies
end VXA
/-! ===== END ===== -/
/-! ===== BEGIN a static call of a method with an exception table ===== -/
section VXS
variable {p : Program} {l : Launch} {e : Env} {R : Room} {s : State} {m : MethodId} {args : Array Value} {below : List Frame} {meth : Method} {c : Code} {T : State} {H : Heap} {locs : List Loc} {cells slots : Nat}
abbrev vx_CSW (R : Room) (s : State) (args : Array Value) (own : String) (index : Nat) (y : MethodName) (bytes : ByteArray) (maxL : Nat) (ret : Option FieldType) (hh : List (Nat × Nat × Nat × Nat)) (ws : List Cond) (rm : Room) (mc ms n : Nat) : Prop :=
  (rm.cells = mc ∧ rm.slots = ms ∧ rm.frames + 1 ≤ R.frames ∧ 8 + (maxL + 11) + rm.locals ≤ R.locals ∧ (∀ w ∈ ws, ∀ (a' : Array Value) (U : State), s.WarmedH U.vm → w.before a' U = true) ∧ Cond.codeWith y bytes maxL ret hh ∈ ws) ∧
  (Cond.codeWith y bytes maxL ret hh).before args s = true ∧ (Cond.initialized y.cls).before args s = true ∧ (y.cls ≠ "java/lang/invoke/MethodHandle" ∧ y.cls ≠ "java/lang/invoke/VarHandle") ∧
  (∀ sig, parseMethodDescriptor y.desc = some sig → n = sig.parameters.length) ∧ (Cond.methodLink own index y).before args s = true ∧ (Cond.static y).before args s = true
theorem vx_cwSW {own : String} {index maxL mc ms : Nat} {y : MethodName} {bytes : ByteArray} {ret : Option FieldType} {hh : List (Nat × Nat × Nat × Nat)} {Ts ws ws' : List Cond} {rm : Room} (n : Nat) (ht : ∀ w ∈ Ts, w.before args s = true) (hT : GoodIn Ts (va_wsS own index y ws)) (hw : ws = Cond.codeWith y bytes maxL ret hh :: ws') (hrc : rm.cells = mc) (hrs : rm.slots = ms)
    (hd : y.cls ≠ "java/lang/invoke/MethodHandle" ∧ y.cls ≠ "java/lang/invoke/VarHandle" ∧ (parseMethodDescriptor y.desc).map (fun d => d.parameters.length) = some n) (hR : rm.frames + 1 ≤ R.frames ∧ 8 + (maxL + 11) + rm.locals ≤ R.locals) :
    vx_CSW R s args own index y bytes maxL ret hh ws rm mc ms n := by
  have ok : ∀ w ∈ va_wsS own index y ws, w.before args s = true := fun w h => ht w (hT w h).1
  have hG : GoodIn Ts ws := fun w h => hT w (by unfold va_wsS; exact List.mem_append_right _ h)
  have hc : Cond.codeWith y bytes maxL ret hh ∈ ws := by rw [hw]; exact List.mem_cons_self
  refine ⟨⟨hrc, hrs, hR.1, hR.2, pay_in ht hG, hc⟩, ht _ (hG _ hc).1, ok _ (by simp [va_wsS]), ⟨hd.1, hd.2.1⟩, fun sig h => ?_, ok _ (by simp [va_wsS]), ok _ (by simp [va_wsS])⟩
  have h2 := hd.2.2
  rw [h] at h2
  exact (Option.some.inj h2).symm
theorem vx_callSW (X : Stand p l e R s m args below meth c T locs cells slots) (hexec : p.tables.exec = Jvm.exec) {own : String} {index : Nat} {y : MethodName} {bytes : ByteArray} {maxL : Nat} {ret : Option FieldType} {hh : List (Nat × Nat × Nat × Nat)}
    (hown : s.vm.findClass own = some m.cls) (hlink : (Cond.methodLink own index y).before args s = true) (hstat : (Cond.static y).before args s = true) (hinit : (Cond.initialized y.cls).before args s = true)
    (hcode : (Cond.codeWith y bytes maxL ret hh).before args s = true) (hy : y.cls ≠ "java/lang/invoke/MethodHandle" ∧ y.cls ≠ "java/lang/invoke/VarHandle")
    {W9 : Nat} {Pre : Pt → Array Value → Prop} {Post : Pt → Array Value → Option Value → Pt → Prop} (hK : Back l R p e below s args y 3 W9 Pre Post)
    {g : JFrame} (hg : g.method = m) (hsize : g.locals.size = c.maxLocals) {argsL rest : List Value} (hlen : ∀ sig, parseMethodDescriptor y.desc = some sig → argsL.length = sig.parameters.length)
    (hstack : g.stack = argsL.reverse ++ rest) (hW : 2 * g.monitorRoom + (rest.map fun v => v.category).sum ≤ W9) (hdg : decode c.code g.pc = .ok (.invokestatic index, 3))
    (hpre : ∀ vm₁, s.WarmedH vm₁ → Pre ⟨T.setVm vm₁, locs, cells, slots⟩ argsL.toArray) :
    ∃ (v : Option Value) (vm₁ : Vm) (B : Pt), s.WarmedH vm₁ ∧ Stand p l e R s m args below meth c B.U B.locs B.cells B.slots ∧ Post ⟨T.setVm vm₁, locs, cells, slots⟩ argsL.toArray v B ∧
      ∀ target, Steps p.tables e below (B.U.setTop { g with pc := g.pc + 3, stack := v.toList ++ rest }) target → Steps p.tables e below (T.setTop g) target := by
  obtain ⟨mk, methM, cM, hnamed, hmethM, -, -, -, -, -, -, hsigM⟩ := Cond.codeWith_spec hcode
  have hstatic : methM.isStatic = true := Cond.static_spec hnamed hmethM hstat
  obtain ⟨kP, hkP, -⟩ := className_of_methodNamed hnamed
  have hinitP : kP.init = .initialized := Cond.initialized_spec (findClass_of_methodNamed hnamed) hkP hinit
  obtain ⟨vm₁, X₁, hstep₁⟩ := X.invokestatic hexec hown hlink hnamed hmethM hstatic hkP hinitP hy (g := g) hg (argsL := argsL) (rest := rest) (hlen _ hsigM) hstack hdg
  obtain ⟨v, B, X', hpost, hsteps⟩ := hK m meth c ⟨T.setVm vm₁, locs, cells, slots⟩ { g with stack := rest } (.invokestatic index) mk argsL.toArray X₁ hg hsize hdg hW (X₁.named hnamed) (hpre vm₁ X₁.warmed)
  exact ⟨v, vm₁, B, X₁.warmed, X', hpost, fun target h => hstep₁ _ fun acts => by rw [doInvoke_state]; exact hsteps.trans h⟩
theorem vx_runSW {y : MethodName} {bytes cc : ByteArray} {maxL nL mc ms n index : Nat} {ret : Option FieldType} {hh : List (Nat × Nat × Nat × Nat)} {ws : List Cond} {rm : Room} {Pc : Array Value → State → Prop} {Qc : Array Value → State → Outcome → State → Prop} {free : Addr → Prop} {Ts : List Cond} {own : String} {As rest : List Value} {g : JFrame}
    (S : CallFix p m c cc nL s args Ts own) (hM : Met l y ws rm Pc Qc mc ms free) (cw : vx_CSW R s args own index y bytes maxL ret hh ws rm mc ms n) (hp : PreS s H Pc As)
    (hg : g.method = m) (hn : As.length = n) (hsize : g.locals.size = nL) (hstack : g.stack = As.reverse ++ rest) (hW : 2 * g.monitorRoom + (rest.map fun v => v.category).sum ≤ 8) (hdg : decode cc g.pc = .ok (.invokestatic index, 3)) (hf : cells + mc ≤ R.cells ∧ slots + ms ≤ R.slots) :
    va_Run p l e R s m args below meth c H locs cells slots mc ms g rest (Qc As.toArray) (free) := by
  obtain ⟨⟨hrc, hrs, hfr, hlo, hws, hcw⟩, hcode, hini, hy, hlen, hl, hstt⟩ := cw
  have hK : Back l R p e below s args y 3 8 (PreOf R mc ms Pc) (PostOf Qc mc ms free) := va_backW (hh := hh) (bytes := bytes) (maxL := maxL) (ret := ret) hM hp.1 hrc hrs hfr hlo hws hcw (fun a' U hW => word_at hW (Or.inl (by first | rfl | simp [Cond.onTables, Cond.keeps, Cond.steady])) hini)
  obtain ⟨hx, hb, hml, ho, -⟩ := S
  intro T hT X
  obtain ⟨v, vm₁, ⟨U', l2, c2, s2⟩, hW₁, X', ⟨g', mk, t, L, e1, e2, hq, h1, hL, h2, h3⟩, st⟩ := vx_callSW X hx (hh := hh) (bytes := bytes) (maxL := maxL) (ret := ret) ho hl hstt hini hcode hy hK hg (hsize.trans hml.symm) (argsL := As) (rest := rest) (fun sig h => hn.trans (hlen sig h)) hstack hW (by rw [hb]; exact hdg)
    (fun vm₁ hW₁ => ⟨hf.1, hf.2, hp.2 (T.setVm vm₁) hT hW₁⟩)
  dsimp only [Pt.U, Pt.locs, Pt.cells, Pt.slots] at X' e1 e2 h1 h2 h3 st
  subst h1; subst h2; subst h3
  exact ⟨v, (T.setVm vm₁).calling g' mk As.toArray, t, U', L, hT, X', hL, e1, e2, hq, st⟩
/-- not caught here, past rows that name other classes: it goes on to the caller -/
theorem vx_outP {p : Program} {l : Launch} {e : Env} {R : Room} {s : State} {m : MethodId} {args : Array Value} {below : List Frame} {meth : Method} {c : Code} {H : Heap} {locs : List Loc} {cells slots : Nat} {free : Addr → Prop} {ls : Array Slot} {rest : List Value} {Qc : Array Value → State → Outcome → State → Prop} {XC : String → State → State → Prop}
    {pc : Nat} {own E : String} {ce : Cell} {q : Addr} {mc ms : Nat} (hown : s.vm.findClass own = some m.cls) (hlocks : meth.locks = false)
    (hpass : ∀ z ∈ c.exceptionTable.toList, covers z pc = false ∨ (z.catchType ≠ 0 ∧ ∃ nm : String, (Cond.classLink own z.catchType nm).before args s = true ∧ va_Nc E nm s)) (hcell : H[q]? = some ce) (hv : ce.vm = .none) (hcl : s.vm.findClass E = some ce.cls)
    (hx : ∀ t : State, t.heap = H → s.vm.Alike t.vm → XC E s t) (hf : ∀ z ∈ locs, free z.base) (hc : cells ≤ mc) (hs : slots ≤ ms) :
    vx_W p l e R s m args below meth c H locs cells slots (vx_MQ below Qc XC args s mc ms free) (F0 m pc ls rest) q := by
  intro T hT X
  have hpl : e.platform.magicAccessors = ({} : Platform).magicAccessors := by rw [X.admits.platform]
  obtain ⟨vm', hW', X', st⟩ := X.outThrough hlocks q (g := F0 m pc ls rest) rfl rfl rfl (cell := ce) (by rw [hT]; exact hcell) (by rw [hv]; rfl)
    (by obtain ⟨k9, h9, -⟩ := Vm.findClass_spec hcl; exact ⟨k9, h9⟩) (fun z hz => by
      rcases hpass z hz with h | ⟨hz0, nm, hl1, hn1⟩
      · exact Or.inl h
      · obtain ⟨c6, hc6, hcl6⟩ := Cond.classLink_spec hown hl1 e.platform hpl
        obtain ⟨a8, b8, h1, h2, h3⟩ := hn1
        cases Option.some.inj (h1.symm.trans hcl)
        cases Option.some.inj (h2.symm.trans hc6)
        exact Or.inr ⟨hz0, _, hcl6, h3⟩)
  obtain ⟨g₀, hfr⟩ := X'.frames_eq
  have hcell9 : ((T.setVm vm').setFrames (.throwing q :: below)).heap[q]? = some ce := by
    show T.heap[q]? = some ce
    rw [hT]; exact hcell
  have hend : Ended ((T.setVm vm').setFrames (.throwing q :: below)) below (.threw q) := State.frames_setFrames _ (State.cur_lt_of_frames hfr)
  refine ⟨(T.setVm vm').setFrames (.throwing q :: below), ?_, .threw q, X'.here.running, hend, Or.inr ⟨q, rfl, E, ce, locs, hx _ hT (X'.ends _).1.alike, hcell9, hv, hcl, (X'.ends _).1, (X'.ends _).2.mono hc hs, hf⟩⟩
  rw [X.pushThrowing_eq]
  exact st
/-- a thing of a world lies in the heap -/
theorem vx_lt {D : va_G} {cl : List vw_C} {ws : va_W} {H1 : Heap} (h : va_P D cl ws H1) {k : Nat} {q : Nat × va_E} (hk : ws[k]? = some q) : q.1 < H1.size := (h k q hk).lt
end VXS
/-! ===== END ===== -/
/-! ===== BEGIN methods with a table of their own: called by a name, returning or throwing ===== -/
section VXH
/-! vx_backW, vx_callVX, vx_callSX, vx_callVW, vx_runVW, vx_runVX, vx_runSX, vx_ofWH follow the same proofs as their sisters above (Free/Laws.lean, Shelf42/LK1.lean); vx_outP calls Shelf42/NT130.lean (outThrough). -/
section
variable {l : Launch} {R : Room} {p : Program} {e : Env} {below : List Frame} {s : State} {sargs : Array Value} {y : MethodName} {len W9 : Nat}
theorem vx_backW {ws : List Cond} {rm : Room} {Pc : Array Value → State → Prop} {Qc : Array Value → State → Outcome → State → Prop} {XC : String → State → State → Prop} {mc ms : Nat} {free : Addr → Prop} {bytes : ByteArray} {maxL : Nat} {ret : Option FieldType} {hh : List (Nat × Nat × Nat × Nat)}
    (hM : vx_Met l y ws rm Pc Qc XC mc ms free) (hblind : FrameBlind Pc) (hrc : rm.cells = mc) (hrs : rm.slots = ms)
    (hframes : rm.frames + 1 ≤ R.frames) (hlocals : W9 + (maxL + 11) + rm.locals ≤ R.locals)
    (hws : ∀ w ∈ ws, ∀ a' U, s.WarmedH U.vm → w.before a' U = true) (hcode : Cond.codeWith y bytes maxL ret hh ∈ ws) (hinit : ∀ a' U, s.WarmedH U.vm → (Cond.initialized y.cls).before a' U = true) :
    vx_Back l R p e below s sargs y len W9 (PreOf R mc ms Pc) (PostOf Qc mc ms free) (vx_Post XC mc ms free) := by
  intro m meth c A g ig mk a X hg hsize hdg hW hn hp
  have h1 : (headSpec ws rm).pre.before a A.U = true := atoms_intro fun w hw => hws w hw _ _ X.warmed
  have h2 : (Cond.codeWith y bytes maxL ret hh).before a A.U = true := hws _ hcode _ _ X.warmed
  have h3 : (Cond.initialized y.cls).before a A.U = true := hinit _ _ X.warmed
  have h4 : A.cells + (headSpec ws rm).room.cells ≤ R.cells := by rw [show (headSpec ws rm).room.cells = mc from hrc]; exact hp.1
  have h5 : A.slots + (headSpec ws rm).room.slots ≤ R.slots := by rw [show (headSpec ws rm).room.slots = ms from hrs]; exact hp.2.1
  have hPc : Pc a (A.U.calling g mk a) := hblind _ _ _ _ hp.2.2
  obtain ⟨U, Ls, c0, s0⟩ := A
  dsimp only [Pt.U, Pt.locs, Pt.cells, Pt.slots] at h1 h2 h3 h4 h5 X hn hPc ⊢
  obtain ⟨m9, methY, cY, hn9, hmY, hcY, -, hlY, -⟩ := Cond.codeWith_spec h2
  cases Option.some.inj (hn9.symm.trans hn)
  obtain ⟨kY, hkY, -⟩ := className_of_methodNamed hn
  have hinitY : kY.init = .initialized := Cond.initialized_spec (findClass_of_methodNamed hn) hkY h3
  have h : At U g.method c below := by rw [hg]; exact X.here
  have hlocals9 : W9 + (maxL + 11) + (headSpec ws rm).room.locals ≤ R.locals := hlocals
  have happ : (headSpec ws rm).appliesLoose y e.platform (U.calling g mk a) = true :=
    Spec.appliesLoose_calling (g := g) h hdg hn hkY hinitY
      (X.room_calling (g := g) (R' := (headSpec ws rm).room) hsize hmY hcY hframes (by rw [hlY]; omega) h4 h5) h1
  obtain ⟨mid, hmid⟩ := h.above
  have hfr : (U.setTop g).frames = (.java g :: mid) ++ below := by rw [State.frames_setTop' g h.top, hmid]; rfl
  obtain ⟨o, s₂, hsteps, -, hend, hq⟩ := Steps.callFree hM p X.admits X.cas X.clock (acts := []) hfr happ hPc trivial
  have hq' : vx_Q Qc XC mc ms free a (U.calling g mk a) o s₂ := hq
  rw [State.frames_setTop' g h.top] at hend
  obtain ⟨g₀, hg0⟩ := Option.isSome_iff_exists.mp h.top
  obtain ⟨r, hr⟩ := State.topJava?_eq_some.mp hg0
  have hr' : (({ U with heap := s₂.heap, slotsUsed := s₂.slotsUsed } : State).setVm s₂.vm).frames = .java g₀ :: r := hr
  rcases hq' with ⟨hqc, L, hfe, hL⟩ | ⟨q, rfl, E, ce, L, hx, hce, hcv, hcl, hW₂, hsm, hL⟩
  · obtain ⟨⟨v, rfl⟩, hW₂, e2, q2, q3, q4, q5, q6⟩ := id hfe
    have e3 : s₂ = ({ (U.calling g mk a).setFrames s₂.frames with heap := s₂.heap, slotsUsed := s₂.slotsUsed } : State).setVm s₂.vm := by
      have : s₂ = ({ s₂ with vm := (U.calling g mk a).vm } : State).setVm s₂.vm := rfl
      rw [e2] at this
      exact this
    obtain ⟨c₂, i₂, len₂, hc₂, hd₂, hf₂⟩ := hend
    have hW' : U.WarmedH s₂.vm := hW₂
    have hcc : c₂ = c := by
      have h1 : s₂.code? g.method = U.code? g.method := by
        rw [State.code?_eq, State.code?_eq, hW'.alike.method?]
      exact Option.some.inj (hc₂.symm.trans (h1.trans h.code))
    subst hcc
    have hlen : len₂ = len := by rw [hdg] at hd₂; cases hd₂; rfl
    subst hlen
    have hs₂ : s₂ = (({ U with heap := s₂.heap, slotsUsed := s₂.slotsUsed } : State).setVm s₂.vm).setTop { g with pc := g.pc + len₂, stack := v.toList ++ g.stack } := by
      refine e3.trans ?_
      rw [hf₂, State.calling_eq h.top, State.setFrames_setFrames, State.setTop_of_frames _ hr', hr]
      rfl
    have hsame : U.sameButNew ({ U with heap := s₂.heap, slotsUsed := s₂.slotsUsed } : State) L mc ms := by
      refine ⟨?_, q2, q3, q4, q5, q6⟩
      obtain ⟨t, ht, -⟩ := State.frames_cons hr
      show ({ U with heap := s₂.heap, slotsUsed := s₂.slotsUsed } : State) = { U.setFrames U.frames with heap := s₂.heap, slotsUsed := s₂.slotsUsed }
      rw [State.setFrames_self ht]
    subst hg
    refine Or.inl ⟨v, ⟨(({ U with heap := s₂.heap, slotsUsed := s₂.slotsUsed } : State).setVm s₂.vm), Ls ++ L, c0 + mc, s0 + ms⟩,
      ⟨X.admits, X.cas, X.clock, X.frames, X.room, X.hears, X.method, X.code, (X.here.setHeapUsed s₂.heap s₂.slotsUsed).setVm hW'.alike, X.tail, State.WarmedH.trans X.warmed hW', X.limits, X.bytes, X.same.trans (hsame.setVm s.vm)⟩,
      ⟨g, mk, s₂, L, rfl, rfl, hqc, rfl, hL, rfl, rfl⟩, ?_⟩
    show Steps p.tables e below _ ((({ U with heap := s₂.heap, slotsUsed := s₂.slotsUsed } : State).setVm s₂.vm).setTop { g with pc := g.pc + len₂, stack := v.toList ++ g.stack })
    rw [← hs₂]
    exact hsteps
  · obtain ⟨e2, q2, q3, q4, q5, q6⟩ := id hsm
    have e3 : s₂ = ({ (U.calling g mk a).setFrames s₂.frames with heap := s₂.heap, slotsUsed := s₂.slotsUsed } : State).setVm s₂.vm := by
      have : s₂ = ({ s₂ with vm := (U.calling g mk a).vm } : State).setVm s₂.vm := rfl
      rw [e2] at this
      exact this
    have hf₂ : s₂.frames = .throwing q :: .java g :: U.frames.tail := hend
    have hW' : U.WarmedH s₂.vm := hW₂
    have hs₂ : s₂ = ((({ U with heap := s₂.heap, slotsUsed := s₂.slotsUsed } : State).setVm s₂.vm).setTop g).pushFrame (.throwing q) := by
      refine e3.trans ?_
      rw [hf₂, State.calling_eq h.top, State.setFrames_setFrames, State.pushFrame, State.frames_setTop _ hr', State.setTop_of_frames _ hr', State.setFrames_setFrames, hr]
      rfl
    have hsame : U.sameButNew ({ U with heap := s₂.heap, slotsUsed := s₂.slotsUsed } : State) L mc ms := by
      refine ⟨?_, q2, q3, q4, q5, q6⟩
      obtain ⟨t, ht, -⟩ := State.frames_cons hr
      show ({ U with heap := s₂.heap, slotsUsed := s₂.slotsUsed } : State) = { U.setFrames U.frames with heap := s₂.heap, slotsUsed := s₂.slotsUsed }
      rw [State.setFrames_self ht]
    subst hg
    refine Or.inr ⟨q, ⟨(({ U with heap := s₂.heap, slotsUsed := s₂.slotsUsed } : State).setVm s₂.vm), Ls ++ L, c0 + mc, s0 + ms⟩,
      ⟨X.admits, X.cas, X.clock, X.frames, X.room, X.hears, X.method, X.code, (X.here.setHeapUsed s₂.heap s₂.slotsUsed).setVm hW'.alike, X.tail, State.WarmedH.trans X.warmed hW', X.limits, X.bytes, X.same.trans (hsame.setVm s.vm)⟩,
      ⟨g, mk, s₂, L, E, ce, rfl, rfl, hx, hce, hcv, hcl, rfl, hL, rfl, rfl⟩, ?_⟩
    show Steps p.tables e below _ (((({ U with heap := s₂.heap, slotsUsed := s₂.slotsUsed } : State).setVm s₂.vm).setTop g).pushFrame (.throwing q))
    rw [← hs₂]
    exact hsteps
end
variable {p : Program} {l : Launch} {e : Env} {R : Room} {s : State} {m : MethodId} {args : Array Value} {below : List Frame} {meth : Method} {c : Code} {T : State} {H : Heap} {locs : List Loc} {cells slots : Nat}
theorem vx_callVX (X : Stand p l e R s m args below meth c T locs cells slots) (hexec : p.tables.exec = Jvm.exec) {own C : String} {index : Nat} {y : MethodName} {bytes : ByteArray} {maxL : Nat} {ret : Option FieldType} {hh : List (Nat × Nat × Nat × Nat)}
    (hown : s.vm.findClass own = some m.cls) (hlink : (Cond.methodLink own index y).before args s = true) (hinst : (Cond.instanceMethod y).before args s = true) (hsel : (Cond.selects C y y).before args s = true)
    (hcode : (Cond.codeWith y bytes maxL ret hh).before args s = true) (hy : y.cls ≠ "java/lang/invoke/MethodHandle" ∧ y.cls ≠ "java/lang/invoke/VarHandle")
    {W9 : Nat} {Pre : Pt → Array Value → Prop} {Post : Pt → Array Value → Option Value → Pt → Prop} {PostX : Pt → Array Value → Addr → Pt → Prop} (hK : vx_Back l R p e below s args y 3 W9 Pre Post PostX)
    {b : Addr} {cellB : Cell} (hcell : T.heap[b]? = some cellB) (hobj : cellB.vm.isStatics = false) (hcls : s.vm.findClass C = some cellB.cls)
    {g : JFrame} (hg : g.method = m) (hsize : g.locals.size = c.maxLocals) {argsL rest : List Value} (hlen : ∀ sig, parseMethodDescriptor y.desc = some sig → argsL.length = sig.parameters.length)
    (hstack : g.stack = argsL.reverse ++ .ref b :: rest) (hW : 2 * g.monitorRoom + (rest.map fun v => v.category).sum ≤ W9) (hdg : decode c.code g.pc = .ok (.invokevirtual index, 3))
    (hpre : ∀ vm₁, s.WarmedH vm₁ → Pre ⟨T.setVm vm₁, locs, cells, slots⟩ (Value.ref b :: argsL).toArray) :
    (∃ (v : Option Value) (vm₁ : Vm) (B : Pt), s.WarmedH vm₁ ∧ Stand p l e R s m args below meth c B.U B.locs B.cells B.slots ∧ Post ⟨T.setVm vm₁, locs, cells, slots⟩ (Value.ref b :: argsL).toArray v B ∧
      ∀ target, Steps p.tables e below (B.U.setTop { g with pc := g.pc + 3, stack := v.toList ++ rest }) target → Steps p.tables e below (T.setTop g) target) ∨
    (∃ (q : Addr) (vm₁ : Vm) (B : Pt), s.WarmedH vm₁ ∧ Stand p l e R s m args below meth c B.U B.locs B.cells B.slots ∧ PostX ⟨T.setVm vm₁, locs, cells, slots⟩ (Value.ref b :: argsL).toArray q B ∧
      Steps p.tables e below (T.setTop g) ((B.U.setTop { g with stack := rest }).pushFrame (.throwing q))) := by
  obtain ⟨mk, methM, hnamed, hmethM, hstM, habM⟩ := Cond.instanceMethod_spec hinst
  obtain ⟨m8, methM', cM, hn8, hmethM', -, -, -, -, -, -, hsigM⟩ := Cond.codeWith_spec hcode
  cases Option.some.inj (hn8.symm.trans hnamed)
  cases hmethM.symm.trans hmethM'
  obtain ⟨c2, r2, m2, q1, q2, q3, q4, kP, hkP, hkPi⟩ := Cond.selects_spec hsel
  cases hcls.symm.trans q1
  cases (State.methodFound?_of_named hnamed hy).symm.trans q2
  cases hnamed.symm.trans q3
  have hselP : selectMethod e.platform s.vm cellB.cls mk = .method mk := by rw [Launch.admits_selectMethod X.admits]; exact q4
  obtain ⟨vm₁, X₁, hstep₁⟩ := X.invokevirtual hexec hown hlink hnamed hmethM hstM hkP hkPi hy (a := b) (cell := cellB) hcell
    (fun z h => by rw [h] at hobj; cases hobj) hselP hmethM habM hkP hkPi (g := g) hg (argsL := argsL) (rest := rest) (hlen _ hsigM) hstack hdg
  rcases hK m meth c ⟨T.setVm vm₁, locs, cells, slots⟩ { g with stack := rest } (.invokevirtual index) mk (Value.ref b :: argsL).toArray X₁ hg hsize hdg hW (X₁.named hnamed) (hpre vm₁ X₁.warmed) with ⟨v, B, X', hpost, hsteps⟩ | ⟨q, B, X', hpost, hsteps⟩
  · exact Or.inl ⟨v, vm₁, B, X₁.warmed, X', hpost, fun target h => hstep₁ _ fun acts => by rw [doInvoke_state]; exact hsteps.trans h⟩
  · exact Or.inr ⟨q, vm₁, B, X₁.warmed, X', hpost, hstep₁ _ fun acts => by rw [doInvoke_state]; exact hsteps⟩
theorem vx_callSX (X : Stand p l e R s m args below meth c T locs cells slots) (hexec : p.tables.exec = Jvm.exec) {own : String} {index : Nat} {y : MethodName} {bytes : ByteArray} {maxL : Nat} {ret : Option FieldType} {hh : List (Nat × Nat × Nat × Nat)}
    (hown : s.vm.findClass own = some m.cls) (hlink : (Cond.methodLink own index y).before args s = true) (hstat : (Cond.static y).before args s = true) (hinit : (Cond.initialized y.cls).before args s = true)
    (hcode : (Cond.codeWith y bytes maxL ret hh).before args s = true) (hy : y.cls ≠ "java/lang/invoke/MethodHandle" ∧ y.cls ≠ "java/lang/invoke/VarHandle")
    {W9 : Nat} {Pre : Pt → Array Value → Prop} {Post : Pt → Array Value → Option Value → Pt → Prop} {PostX : Pt → Array Value → Addr → Pt → Prop} (hK : vx_Back l R p e below s args y 3 W9 Pre Post PostX)
    {g : JFrame} (hg : g.method = m) (hsize : g.locals.size = c.maxLocals) {argsL rest : List Value} (hlen : ∀ sig, parseMethodDescriptor y.desc = some sig → argsL.length = sig.parameters.length)
    (hstack : g.stack = argsL.reverse ++ rest) (hW : 2 * g.monitorRoom + (rest.map fun v => v.category).sum ≤ W9) (hdg : decode c.code g.pc = .ok (.invokestatic index, 3))
    (hpre : ∀ vm₁, s.WarmedH vm₁ → Pre ⟨T.setVm vm₁, locs, cells, slots⟩ argsL.toArray) :
    (∃ (v : Option Value) (vm₁ : Vm) (B : Pt), s.WarmedH vm₁ ∧ Stand p l e R s m args below meth c B.U B.locs B.cells B.slots ∧ Post ⟨T.setVm vm₁, locs, cells, slots⟩ argsL.toArray v B ∧
      ∀ target, Steps p.tables e below (B.U.setTop { g with pc := g.pc + 3, stack := v.toList ++ rest }) target → Steps p.tables e below (T.setTop g) target) ∨
    (∃ (q : Addr) (vm₁ : Vm) (B : Pt), s.WarmedH vm₁ ∧ Stand p l e R s m args below meth c B.U B.locs B.cells B.slots ∧ PostX ⟨T.setVm vm₁, locs, cells, slots⟩ argsL.toArray q B ∧
      Steps p.tables e below (T.setTop g) ((B.U.setTop { g with stack := rest }).pushFrame (.throwing q))) := by
  obtain ⟨mk, methM, cM, hnamed, hmethM, -, -, -, -, -, -, hsigM⟩ := Cond.codeWith_spec hcode
  have hstatic : methM.isStatic = true := Cond.static_spec hnamed hmethM hstat
  obtain ⟨kP, hkP, -⟩ := className_of_methodNamed hnamed
  have hinitP : kP.init = .initialized := Cond.initialized_spec (findClass_of_methodNamed hnamed) hkP hinit
  obtain ⟨vm₁, X₁, hstep₁⟩ := X.invokestatic hexec hown hlink hnamed hmethM hstatic hkP hinitP hy (g := g) hg (argsL := argsL) (rest := rest) (hlen _ hsigM) hstack hdg
  rcases hK m meth c ⟨T.setVm vm₁, locs, cells, slots⟩ { g with stack := rest } (.invokestatic index) mk argsL.toArray X₁ hg hsize hdg hW (X₁.named hnamed) (hpre vm₁ X₁.warmed) with ⟨v, B, X', hpost, hsteps⟩ | ⟨q, B, X', hpost, hsteps⟩
  · exact Or.inl ⟨v, vm₁, B, X₁.warmed, X', hpost, fun target h => hstep₁ _ fun acts => by rw [doInvoke_state]; exact hsteps.trans h⟩
  · exact Or.inr ⟨q, vm₁, B, X₁.warmed, X', hpost, hstep₁ _ fun acts => by rw [doInvoke_state]; exact hsteps⟩
theorem vx_callVW (X : Stand p l e R s m args below meth c T locs cells slots) (hexec : p.tables.exec = Jvm.exec) {own C : String} {index : Nat} {y : MethodName} {bytes : ByteArray} {maxL : Nat} {ret : Option FieldType} {hh : List (Nat × Nat × Nat × Nat)}
    (hown : s.vm.findClass own = some m.cls) (hlink : (Cond.methodLink own index y).before args s = true) (hinst : (Cond.instanceMethod y).before args s = true) (hsel : (Cond.selects C y y).before args s = true)
    (hcode : (Cond.codeWith y bytes maxL ret hh).before args s = true) (hy : y.cls ≠ "java/lang/invoke/MethodHandle" ∧ y.cls ≠ "java/lang/invoke/VarHandle")
    {W9 : Nat} {Pre : Pt → Array Value → Prop} {Post : Pt → Array Value → Option Value → Pt → Prop} (hK : Back l R p e below s args y 3 W9 Pre Post)
    {b : Addr} {cellB : Cell} (hcell : T.heap[b]? = some cellB) (hobj : cellB.vm.isStatics = false) (hcls : s.vm.findClass C = some cellB.cls)
    {g : JFrame} (hg : g.method = m) (hsize : g.locals.size = c.maxLocals) {argsL rest : List Value} (hlen : ∀ sig, parseMethodDescriptor y.desc = some sig → argsL.length = sig.parameters.length)
    (hstack : g.stack = argsL.reverse ++ .ref b :: rest) (hW : 2 * g.monitorRoom + (rest.map fun v => v.category).sum ≤ W9) (hdg : decode c.code g.pc = .ok (.invokevirtual index, 3))
    (hpre : ∀ vm₁, s.WarmedH vm₁ → Pre ⟨T.setVm vm₁, locs, cells, slots⟩ (Value.ref b :: argsL).toArray) :
    ∃ (v : Option Value) (vm₁ : Vm) (B : Pt), s.WarmedH vm₁ ∧ Stand p l e R s m args below meth c B.U B.locs B.cells B.slots ∧ Post ⟨T.setVm vm₁, locs, cells, slots⟩ (Value.ref b :: argsL).toArray v B ∧
      ∀ target, Steps p.tables e below (B.U.setTop { g with pc := g.pc + 3, stack := v.toList ++ rest }) target → Steps p.tables e below (T.setTop g) target := by
  obtain ⟨mk, methM, hnamed, hmethM, hstM, habM⟩ := Cond.instanceMethod_spec hinst
  obtain ⟨m8, methM', cM, hn8, hmethM', -, -, -, -, -, -, hsigM⟩ := Cond.codeWith_spec hcode
  cases Option.some.inj (hn8.symm.trans hnamed)
  cases hmethM.symm.trans hmethM'
  obtain ⟨c2, r2, m2, q1, q2, q3, q4, kP, hkP, hkPi⟩ := Cond.selects_spec hsel
  cases hcls.symm.trans q1
  cases (State.methodFound?_of_named hnamed hy).symm.trans q2
  cases hnamed.symm.trans q3
  have hselP : selectMethod e.platform s.vm cellB.cls mk = .method mk := by rw [Launch.admits_selectMethod X.admits]; exact q4
  obtain ⟨vm₁, X₁, hstep₁⟩ := X.invokevirtual hexec hown hlink hnamed hmethM hstM hkP hkPi hy (a := b) (cell := cellB) hcell
    (fun z h => by rw [h] at hobj; cases hobj) hselP hmethM habM hkP hkPi (g := g) hg (argsL := argsL) (rest := rest) (hlen _ hsigM) hstack hdg
  obtain ⟨v, B, X', hpost, hsteps⟩ := hK m meth c ⟨T.setVm vm₁, locs, cells, slots⟩ { g with stack := rest } (.invokevirtual index) mk (Value.ref b :: argsL).toArray X₁ hg hsize hdg hW (X₁.named hnamed) (hpre vm₁ X₁.warmed)
  exact ⟨v, vm₁, B, X₁.warmed, X', hpost, fun target h => hstep₁ _ fun acts => by rw [doInvoke_state]; exact hsteps.trans h⟩
abbrev vx_CVW (R : Room) (s : State) (args : Array Value) (own C : String) (index : Nat) (y : MethodName) (bytes : ByteArray) (maxL : Nat) (ret : Option FieldType) (hh : List (Nat × Nat × Nat × Nat)) (ws : List Cond) (rm : Room) (mc ms n : Nat) : Prop :=
  (rm.cells = mc ∧ rm.slots = ms ∧ rm.frames + 1 ≤ R.frames ∧ 8 + (maxL + 11) + rm.locals ≤ R.locals ∧ (∀ w ∈ ws, ∀ (a' : Array Value) (U : State), s.WarmedH U.vm → w.before a' U = true) ∧ Cond.codeWith y bytes maxL ret hh ∈ ws) ∧
  (Cond.codeWith y bytes maxL ret hh).before args s = true ∧ (Cond.initialized y.cls).before args s = true ∧ (y.cls ≠ "java/lang/invoke/MethodHandle" ∧ y.cls ≠ "java/lang/invoke/VarHandle") ∧
  (∀ sig, parseMethodDescriptor y.desc = some sig → n = sig.parameters.length) ∧ (Cond.methodLink own index y).before args s = true ∧ (Cond.instanceMethod y).before args s = true ∧ (Cond.selects C y y).before args s = true
theorem vx_cwVW {own C : String} {index maxL mc ms : Nat} {y : MethodName} {bytes : ByteArray} {ret : Option FieldType} {hh : List (Nat × Nat × Nat × Nat)} {Ts ws ws' : List Cond} {rm : Room} (n : Nat) (ht : ∀ w ∈ Ts, w.before args s = true) (hT : GoodIn Ts (wsV own index C y ws)) (hw : ws = Cond.codeWith y bytes maxL ret hh :: ws') (hrc : rm.cells = mc) (hrs : rm.slots = ms)
    (hd : y.cls = C ∧ y.cls ≠ "java/lang/invoke/MethodHandle" ∧ y.cls ≠ "java/lang/invoke/VarHandle" ∧ (parseMethodDescriptor y.desc).map (fun d => d.parameters.length) = some n) (hR : rm.frames + 1 ≤ R.frames ∧ 8 + (maxL + 11) + rm.locals ≤ R.locals) :
    vx_CVW R s args own C index y bytes maxL ret hh ws rm mc ms n := by
  obtain ⟨hC, hd⟩ := hd
  subst hC
  have ok : ∀ w ∈ wsV own index y.cls y ws, w.before args s = true := fun w h => ht w (hT w h).1
  have hG : GoodIn Ts ws := fun w h => hT w (by unfold wsV; exact List.mem_append_right _ h)
  have hc : Cond.codeWith y bytes maxL ret hh ∈ ws := by rw [hw]; exact List.mem_cons_self
  refine ⟨⟨hrc, hrs, hR.1, hR.2, pay_in ht hG, hc⟩, ht _ (hG _ hc).1, ok _ (by simp [wsV]), ⟨hd.1, hd.2.1⟩, fun sig h => ?_, ok _ (by simp [wsV]), ok _ (by simp [wsV]), ok _ (by simp [wsV])⟩
  have h2 := hd.2.2
  rw [h] at h2
  exact (Option.some.inj h2).symm
theorem vx_runVW {y : MethodName} {bytes cc : ByteArray} {maxL nL mc ms n index : Nat} {ret : Option FieldType} {hh : List (Nat × Nat × Nat × Nat)} {ws : List Cond} {rm : Room} {Pc : Array Value → State → Prop} {Qc : Array Value → State → Outcome → State → Prop} {free : Addr → Prop} {Ts : List Cond} {own C : String} {b : Addr} {As rest : List Value} {g : JFrame}
    (S : CallFix p m c cc nL s args Ts own) (hM : Met l y ws rm Pc Qc mc ms free) (cw : vx_CVW R s args own C index y bytes maxL ret hh ws rm mc ms n) (hp : PreV s H C b Pc As)
    (hg : g.method = m) (hn : As.length = n) (hsize : g.locals.size = nL) (hstack : g.stack = As.reverse ++ .ref b :: rest) (hW : 2 * g.monitorRoom + (rest.map fun v => v.category).sum ≤ 8) (hdg : decode cc g.pc = .ok (.invokevirtual index, 3)) (hf : cells + mc ≤ R.cells ∧ slots + ms ≤ R.slots) :
    va_Run p l e R s m args below meth c H locs cells slots mc ms g rest (Qc (Value.ref b :: As).toArray) free := by
  obtain ⟨⟨hrc, hrs, hfr, hlo, hws, hcw⟩, hcode, hini, hy, hlen, hl, hin, hse⟩ := cw
  have hK : Back l R p e below s args y 3 8 (PreOf R mc ms Pc) (PostOf Qc mc ms free) := va_backW (hh := hh) (bytes := bytes) (maxL := maxL) (ret := ret) hM hp.1 hrc hrs hfr hlo hws hcw (fun a' U hW => word_at hW (Or.inl (by first | rfl | simp [Cond.onTables, Cond.keeps, Cond.steady])) hini)
  obtain ⟨hx, hb, hml, ho, -⟩ := S
  obtain ⟨-, ⟨cellB, hcB, hoB, hclB⟩, hPc⟩ := hp
  intro T hT X
  obtain ⟨v, vm₁, ⟨U', l2, c2, s2⟩, hW₁, X', ⟨g', mk, t, L, e1, e2, hq, h1, hL, h2, h3⟩, st⟩ := vx_callVW X hx (C := C) (hh := hh) (bytes := bytes) (maxL := maxL) (ret := ret) ho hl hin hse hcode hy hK (by rw [hT]; exact hcB) hoB hclB hg (hsize.trans hml.symm) (argsL := As) (rest := rest) (fun sig h => hn.trans (hlen sig h)) hstack hW (by rw [hb]; exact hdg)
    (fun vm₁ hW₁ => ⟨hf.1, hf.2, hPc (T.setVm vm₁) hT hW₁⟩)
  dsimp only [Pt.U, Pt.locs, Pt.cells, Pt.slots] at X' e1 e2 h1 h2 h3 st
  subst h1; subst h2; subst h3
  exact ⟨v, (T.setVm vm₁).calling g' mk (Value.ref b :: As).toArray, t, U', L, hT, X', hL, e1, e2, hq, st⟩
section
variable {y : MethodName} {bytes cc : ByteArray} {maxL nL mc ms n index : Nat} {ret : Option FieldType} {ws : List Cond} {rm : Room} {Pc : Array Value → State → Prop} {Qc : Array Value → State → Outcome → State → Prop} {XC : String → State → State → Prop} {free : Addr → Prop} {Ts : List Cond} {own C : String} {b : Addr} {As rest : List Value} {g : JFrame}
theorem vx_runVX {hh : List (Nat × Nat × Nat × Nat)} (S : CallFix p m c cc nL s args Ts own) (hM : vx_Met l y ws rm Pc Qc XC mc ms free) (cw : vx_CVW R s args own C index y bytes maxL ret hh ws rm mc ms n) (hp : PreV s H C b Pc As)
    (hg : g.method = m) (hn : As.length = n) (hsize : g.locals.size = nL) (hstack : g.stack = As.reverse ++ .ref b :: rest) (hW : 2 * g.monitorRoom + (rest.map fun v => v.category).sum ≤ 8) (hdg : decode cc g.pc = .ok (.invokevirtual index, 3)) (hf : cells + mc ≤ R.cells ∧ slots + ms ≤ R.slots) :
    vx_Run p l e R s m args below meth c H locs cells slots mc ms g rest (Qc (Value.ref b :: As).toArray) XC free := by
  obtain ⟨⟨hrc, hrs, hfr, hlo, hws, hcw⟩, hcode, hini, hy, hlen, hl, hin, hse⟩ := cw
  have hK : vx_Back l R p e below s args y 3 8 (PreOf R mc ms Pc) (PostOf Qc mc ms free) (vx_Post XC mc ms free) := vx_backW (hh := hh) (bytes := bytes) (maxL := maxL) (ret := ret) hM hp.1 hrc hrs hfr hlo hws hcw (fun a' U hW => word_at hW (Or.inl (by first | rfl | simp [Cond.onTables, Cond.keeps, Cond.steady])) hini)
  obtain ⟨hx, hb, hml, ho, -⟩ := S
  obtain ⟨-, ⟨cellB, hcB, hoB, hclB⟩, hPc⟩ := hp
  intro T hT X
  rcases vx_callVX X hx (C := C) (hh := hh) (bytes := bytes) (maxL := maxL) (ret := ret) ho hl hin hse hcode hy hK (by rw [hT]; exact hcB) hoB hclB hg (hsize.trans hml.symm) (argsL := As) (rest := rest) (fun sig h => hn.trans (hlen sig h)) hstack hW (by rw [hb]; exact hdg)
    (fun vm₁ hW₁ => ⟨hf.1, hf.2, hPc (T.setVm vm₁) hT hW₁⟩) with ⟨v, vm₁, ⟨U', l2, c2, s2⟩, hW₁, X', ⟨g', mk, t, L, e1, e2, hq, h1, hL, h2, h3⟩, st⟩ | ⟨q, vm₁, ⟨U', l2, c2, s2⟩, hW₁, X', ⟨g', mk, t, L, E, ce, e1, e2, hq, hce, hcv, hcl, h1, hL, h2, h3⟩, st⟩
  · dsimp only [Pt.U, Pt.locs, Pt.cells, Pt.slots] at X' e1 e2 h1 h2 h3 st
    subst h1; subst h2; subst h3
    exact Or.inl ⟨v, (T.setVm vm₁).calling g' mk (Value.ref b :: As).toArray, t, U', L, hT, X', hL, e1, e2, hq, st⟩
  · dsimp only [Pt.U, Pt.locs, Pt.cells, Pt.slots] at X' e1 e2 h1 h2 h3 st hcl
    subst h1; subst h2; subst h3
    exact Or.inr ⟨q, (T.setVm vm₁).calling g' mk (Value.ref b :: As).toArray, t, U', L, E, ce, hT, X', hL, e1, e2, hq, hce, hcv, vx_cls hW₁ hcl, st⟩
theorem vx_runSX {hh : List (Nat × Nat × Nat × Nat)} (S : CallFix p m c cc nL s args Ts own) (hM : vx_Met l y ws rm Pc Qc XC mc ms free) (cw : vx_CSW R s args own index y bytes maxL ret hh ws rm mc ms n) (hp : PreS s H Pc As)
    (hg : g.method = m) (hn : As.length = n) (hsize : g.locals.size = nL) (hstack : g.stack = As.reverse ++ rest) (hW : 2 * g.monitorRoom + (rest.map fun v => v.category).sum ≤ 8) (hdg : decode cc g.pc = .ok (.invokestatic index, 3)) (hf : cells + mc ≤ R.cells ∧ slots + ms ≤ R.slots) :
    vx_Run p l e R s m args below meth c H locs cells slots mc ms g rest (Qc As.toArray) XC free := by
  obtain ⟨⟨hrc, hrs, hfr, hlo, hws, hcw⟩, hcode, hini, hy, hlen, hl, hstt⟩ := cw
  have hK : vx_Back l R p e below s args y 3 8 (PreOf R mc ms Pc) (PostOf Qc mc ms free) (vx_Post XC mc ms free) := vx_backW (hh := hh) (bytes := bytes) (maxL := maxL) (ret := ret) hM hp.1 hrc hrs hfr hlo hws hcw (fun a' U hW => word_at hW (Or.inl (by first | rfl | simp [Cond.onTables, Cond.keeps, Cond.steady])) hini)
  obtain ⟨hx, hb, hml, ho, -⟩ := S
  intro T hT X
  rcases vx_callSX X hx (hh := hh) (bytes := bytes) (maxL := maxL) (ret := ret) ho hl hstt hini hcode hy hK hg (hsize.trans hml.symm) (argsL := As) (rest := rest) (fun sig h => hn.trans (hlen sig h)) hstack hW (by rw [hb]; exact hdg)
    (fun vm₁ hW₁ => ⟨hf.1, hf.2, hp.2 (T.setVm vm₁) hT hW₁⟩) with ⟨v, vm₁, ⟨U', l2, c2, s2⟩, hW₁, X', ⟨g', mk, t, L, e1, e2, hq, h1, hL, h2, h3⟩, st⟩ | ⟨q, vm₁, ⟨U', l2, c2, s2⟩, hW₁, X', ⟨g', mk, t, L, E, ce, e1, e2, hq, hce, hcv, hcl, h1, hL, h2, h3⟩, st⟩
  · dsimp only [Pt.U, Pt.locs, Pt.cells, Pt.slots] at X' e1 e2 h1 h2 h3 st
    subst h1; subst h2; subst h3
    exact Or.inl ⟨v, (T.setVm vm₁).calling g' mk As.toArray, t, U', L, hT, X', hL, e1, e2, hq, st⟩
  · dsimp only [Pt.U, Pt.locs, Pt.cells, Pt.slots] at X' e1 e2 h1 h2 h3 st hcl
    subst h1; subst h2; subst h3
    exact Or.inr ⟨q, (T.setVm vm₁).calling g' mk As.toArray, t, U', L, E, ce, hT, X', hL, e1, e2, hq, hce, hcv, vx_cls hW₁ hcl, st⟩
end
end VXH
theorem vx_ofWH {l : Launch} {y : MethodName} {ws ws' : List Cond} {rm : Room} {Pc : Array Value → State → Prop} {Qc : Array Value → State → Outcome → State → Prop} {XC : String → State → State → Prop} {mc ms : Nat} {free : Addr → Prop} {cc : ByteArray} {maxL : Nat} {ret : Option FieldType} {hh : List (Nat × Nat × Nat × Nat)}
    (hy : plainName y.cls = true) (hw : ws = Cond.codeWith y cc maxL ret hh :: ws')
    (body : ∀ p e s m args below meth c s₁, BodyLoose p l y (headSpec ws rm) cc maxL ret e s m args below meth c s₁ → c.maxLocals = maxL → Pc args s →
      W p l e (headSpec ws rm).room s m args below meth c s.heap [] 0 0 (vx_MQ below Qc XC args s mc ms free) (entryFrame m args maxL)) : vx_Met l y ws rm Pc Qc XC mc ms free := by
  refine MetFree.of_bodyS (code := cc) (maxLocals := maxL) (ret := ret) hy ?_ ?_
  · intro args s m h hn
    obtain ⟨m9, meth, c, hn9, h1, h2, h3, h4, -, h5, h6, -⟩ := Cond.codeWith_spec (atoms_spec (ws := ws) h _ (by rw [hw]; exact List.mem_cons_self))
    cases hn.symm.trans hn9
    exact ⟨meth, c, h1, h2, h3, h4, h5, h6⟩
  · intro p e s m args below meth c s₁ B hml hP _
    have hh0 : s₁.heap = s.heap := by rw [B.state]; rfl
    obtain ⟨t, a1, o, b1, b2, b3⟩ := body p e s m args below meth c s₁ B hml hP s₁ hh0 (Stand.of_body B)
    exact ⟨t, o, a1, b1, b2, b3⟩
/-! ===== END ===== -/
end
section
def RX0 : String := "MatchingGraph$Graph"
def TX0 : u_T := fun k => match k with
  | 0 => ("MatchingGraph$Graph", "nodes", "I", false)
  | 1 => ("MatchingGraph$Graph", "near", "[I", true)
  | _ => ("MatchingGraph$Graph", "changes", "I", false)
def tyX0 : Nat → FieldType := fun k => match k with
  | 0 => .int
  | 1 => .array .int
  | _ => .int
abbrev wsX00 : List Cond := u_ws RX0 TX0 3
theorem nmX0 : ∀ a, a < 3 → ∀ b, b < 3 → a ≠ b → (TX0 a).2.1 ≠ (TX0 b).2.1 := by decide +kernel
theorem tyX0_ok : ∀ k, k < 3 → parseFieldDescriptor (TX0 k).2.2.1 = some (tyX0 k) := by decide +kernel
abbrev cX0_init : ByteArray := prog_2_method_1_code
def yX0_init : MethodName := ⟨RX0, "<init>", "()V"⟩
abbrev cX0_clear : ByteArray := prog_2_method_2_code
def yX0_clear : MethodName := ⟨RX0, "clear", "(I)V"⟩
abbrev cX0_copyFrom : ByteArray := prog_2_method_3_code
def yX0_copyFrom : MethodName := ⟨RX0, "copyFrom", "([I)V"⟩
abbrev cX0_all : ByteArray := prog_2_method_4_code
def yX0_all : MethodName := ⟨RX0, "all", "()I"⟩
abbrev cX0_joined : ByteArray := prog_2_method_5_code
def yX0_joined : MethodName := ⟨RX0, "joined", "(II)Z"⟩
abbrev cX0_put : ByteArray := prog_2_method_6_code
def yX0_put : MethodName := ⟨RX0, "put", "(IIZ)V"⟩
abbrev cX0_edges : ByteArray := prog_2_method_7_code
def yX0_edges : MethodName := ⟨RX0, "edges", "()I"⟩
abbrev cX0_pieceOf : ByteArray := prog_2_method_8_code
def yX0_pieceOf : MethodName := ⟨RX0, "pieceOf", "(II)I"⟩
abbrev cX0_pieces : ByteArray := prog_2_method_9_code
def yX0_pieces : MethodName := ⟨RX0, "pieces", "(IZ)I"⟩
abbrev cX0_shortestOddWalk : ByteArray := prog_2_method_10_code
def yX0_shortestOddWalk : MethodName := ⟨RX0, "shortestOddWalk", "(I)I"⟩
abbrev cX0_besides : ByteArray := prog_2_method_11_code
def yX0_besides : MethodName := ⟨RX0, "besides", "(I)I"⟩
abbrev cX0_hasNoEnd : ByteArray := prog_2_method_12_code
def yX0_hasNoEnd : MethodName := ⟨RX0, "hasNoEnd", "(I)Z"⟩
def RX1 : String := "MatchingGraph$History"
def TX1 : u_T := fun k => match k with
  | 0 => ("MatchingGraph$History", "nears", "[[I", true)
  | 1 => ("MatchingGraph$History", "mates", "[[I", true)
  | 2 => ("MatchingGraph$History", "latest", "I", false)
  | _ => ("MatchingGraph$History", "kept", "I", false)
def tyX1 : Nat → FieldType := fun k => match k with
  | 0 => .array (.array .int)
  | 1 => .array (.array .int)
  | 2 => .int
  | _ => .int
abbrev wsX10 : List Cond := u_ws RX1 TX1 4
theorem nmX1 : ∀ a, a < 4 → ∀ b, b < 4 → a ≠ b → (TX1 a).2.1 ≠ (TX1 b).2.1 := by decide +kernel
theorem tyX1_ok : ∀ k, k < 4 → parseFieldDescriptor (TX1 k).2.2.1 = some (tyX1 k) := by decide +kernel
abbrev cX1_init : ByteArray := prog_3_method_1_code
def yX1_init : MethodName := ⟨RX1, "<init>", "()V"⟩
abbrev cX1_clear : ByteArray := prog_3_method_2_code
def yX1_clear : MethodName := ⟨RX1, "clear", "()V"⟩
abbrev cX1_save : ByteArray := prog_3_method_3_code
def yX1_save : MethodName := ⟨RX1, "save", "(LMatchingGraph$Graph;LMatchingGraph$Matching;)V"⟩
abbrev cX1_restore : ByteArray := prog_3_method_4_code
def yX1_restore : MethodName := ⟨RX1, "restore", "(LMatchingGraph$Graph;LMatchingGraph$Matching;)V"⟩
def RX2 : String := "MatchingGraph$Input"
def TX2 : u_T := fun k => match k with
  | 0 => ("MatchingGraph$Input", "codes", "[I", true)
  | _ => ("MatchingGraph$Input", "length", "I", false)
def tyX2 : Nat → FieldType := fun k => match k with
  | 0 => .array .int
  | _ => .int
abbrev wsX20 : List Cond := u_ws RX2 TX2 2
theorem nmX2 : ∀ a, a < 2 → ∀ b, b < 2 → a ≠ b → (TX2 a).2.1 ≠ (TX2 b).2.1 := by decide +kernel
theorem tyX2_ok : ∀ k, k < 2 → parseFieldDescriptor (TX2 k).2.2.1 = some (tyX2 k) := by decide +kernel
abbrev cX2_init : ByteArray := prog_4_method_1_code
def yX2_init : MethodName := ⟨RX2, "<init>", "()V"⟩
abbrev cX2_add : ByteArray := prog_4_method_2_code
def yX2_add : MethodName := ⟨RX2, "add", "(I)V"⟩
abbrev cX2_errorPlace : ByteArray := prog_4_method_3_code
def yX2_errorPlace : MethodName := ⟨RX2, "errorPlace", "(I)I"⟩
abbrev cX2_isComplete : ByteArray := prog_4_method_4_code
def yX2_isComplete : MethodName := ⟨RX2, "isComplete", "(I)Z"⟩
abbrev cX2_stateAt : ByteArray := prog_4_method_5_code
def yX2_stateAt : MethodName := ⟨RX2, "stateAt", "(III)I"⟩
abbrev cX2_nodeAt : ByteArray := prog_4_method_6_code
def yX2_nodeAt : MethodName := ⟨RX2, "nodeAt", "(I)I"⟩
abbrev cX2_isMarked : ByteArray := prog_4_method_7_code
def yX2_isMarked : MethodName := ⟨RX2, "isMarked", "(I)Z"⟩
def RX3 : String := "MatchingGraph$Matching"
def TX3 : u_T := fun k => match k with
  | _ => ("MatchingGraph$Matching", "mate", "[I", true)
def tyX3 : Nat → FieldType := fun k => match k with
  | _ => .array .int
abbrev wsX30 : List Cond := u_ws RX3 TX3 1
theorem nmX3 : ∀ a, a < 1 → ∀ b, b < 1 → a ≠ b → (TX3 a).2.1 ≠ (TX3 b).2.1 := by decide +kernel
theorem tyX3_ok : ∀ k, k < 1 → parseFieldDescriptor (TX3 k).2.2.1 = some (tyX3 k) := by decide +kernel
abbrev cX3_init : ByteArray := prog_5_method_1_code
def yX3_init : MethodName := ⟨RX3, "<init>", "()V"⟩
abbrev cX3_clear : ByteArray := prog_5_method_2_code
def yX3_clear : MethodName := ⟨RX3, "clear", "()V"⟩
abbrev cX3_copyFrom : ByteArray := prog_5_method_3_code
def yX3_copyFrom : MethodName := ⟨RX3, "copyFrom", "([I)V"⟩
abbrev cX3_isExposed : ByteArray := prog_5_method_4_code
def yX3_isExposed : MethodName := ⟨RX3, "isExposed", "(I)Z"⟩
abbrev cX3_has : ByteArray := prog_5_method_5_code
def yX3_has : MethodName := ⟨RX3, "has", "(II)Z"⟩
abbrev cX3_join : ByteArray := prog_5_method_6_code
def yX3_join : MethodName := ⟨RX3, "join", "(II)V"⟩
abbrev cX3_part : ByteArray := prog_5_method_7_code
def yX3_part : MethodName := ⟨RX3, "part", "(I)V"⟩
abbrev cX3_size : ByteArray := prog_5_method_8_code
def yX3_size : MethodName := ⟨RX3, "size", "()I"⟩
abbrev cX3_swapAlong : ByteArray := prog_5_method_9_code
def yX3_swapAlong : MethodName := ⟨RX3, "swapAlong", "([II)V"⟩
def RX4 : String := "MatchingGraph$Maxima"
def TX4 : u_T := fun k => match k with
  | 0 => ("MatchingGraph$Maxima", "graph", "LMatchingGraph$Graph;", true)
  | 1 => ("MatchingGraph$Maxima", "size", "[I", true)
  | 2 => ("MatchingGraph$Maxima", "ways", "[I", true)
  | 3 => ("MatchingGraph$Maxima", "first", "LMatchingGraph$Matching;", true)
  | 4 => ("MatchingGraph$Maxima", "firstIsKnown", "Z", false)
  | _ => ("MatchingGraph$Maxima", "changesSeen", "I", false)
def tyX4 : Nat → FieldType := fun k => match k with
  | 0 => .object "MatchingGraph$Graph"
  | 1 => .array .int
  | 2 => .array .int
  | 3 => .object "MatchingGraph$Matching"
  | 4 => .boolean
  | _ => .int
abbrev wsX40 : List Cond := u_ws RX4 TX4 6
theorem nmX4 : ∀ a, a < 6 → ∀ b, b < 6 → a ≠ b → (TX4 a).2.1 ≠ (TX4 b).2.1 := by decide +kernel
theorem tyX4_ok : ∀ k, k < 6 → parseFieldDescriptor (TX4 k).2.2.1 = some (tyX4 k) := by decide +kernel
abbrev cX4_init : ByteArray := prog_6_method_1_code
def yX4_init : MethodName := ⟨RX4, "<init>", "(LMatchingGraph$Graph;)V"⟩
abbrev cX4_learn : ByteArray := prog_6_method_2_code
def yX4_learn : MethodName := ⟨RX4, "learn", "()V"⟩
abbrev cX4_findOut : ByteArray := prog_6_method_3_code
def yX4_findOut : MethodName := ⟨RX4, "findOut", "(II)V"⟩
abbrev cX4_number : ByteArray := prog_6_method_4_code
def yX4_number : MethodName := ⟨RX4, "number", "()I"⟩
abbrev cX4_howMany : ByteArray := prog_6_method_5_code
def yX4_howMany : MethodName := ⟨RX4, "howMany", "()I"⟩
abbrev cX4_exposing : ByteArray := prog_6_method_6_code
def yX4_exposing : MethodName := ⟨RX4, "exposing", "(I)I"⟩
abbrev cX4_exposable : ByteArray := prog_6_method_7_code
def yX4_exposable : MethodName := ⟨RX4, "exposable", "()I"⟩
abbrev cX4_isCritical : ByteArray := prog_6_method_8_code
def yX4_isCritical : MethodName := ⟨RX4, "isCritical", "()Z"⟩
abbrev cX4_numberWithout : ByteArray := prog_6_method_9_code
def yX4_numberWithout : MethodName := ⟨RX4, "numberWithout", "(II)I"⟩
abbrev cX4_having : ByteArray := prog_6_method_10_code
def yX4_having : MethodName := ⟨RX4, "having", "(II)I"⟩
abbrev cX4_edgesHadBy : ByteArray := prog_6_method_11_code
def yX4_edgesHadBy : MethodName := ⟨RX4, "edgesHadBy", "(I)I"⟩
abbrev cX4_first : ByteArray := prog_6_method_12_code
def yX4_first : MethodName := ⟨RX4, "first", "()LMatchingGraph$Matching;"⟩
abbrev cX4_findFirst : ByteArray := prog_6_method_13_code
def yX4_findFirst : MethodName := ⟨RX4, "findFirst", "()V"⟩
abbrev cX4_leastMate : ByteArray := prog_6_method_14_code
def yX4_leastMate : MethodName := ⟨RX4, "leastMate", "(II)I"⟩
def RX5 : String := "MatchingGraph$Paths"
def TX5 : u_T := fun k => match k with
  | 0 => ("MatchingGraph$Paths", "graph", "LMatchingGraph$Graph;", true)
  | 1 => ("MatchingGraph$Paths", "matching", "LMatchingGraph$Matching;", true)
  | 2 => ("MatchingGraph$Paths", "pairBit", "[I", true)
  | 3 => ("MatchingGraph$Paths", "followed", "[I", true)
  | 4 => ("MatchingGraph$Paths", "wayNodes", "[I", true)
  | 5 => ("MatchingGraph$Paths", "evenEnds", "I", false)
  | _ => ("MatchingGraph$Paths", "oddEnds", "I", false)
def tyX5 : Nat → FieldType := fun k => match k with
  | 0 => .object "MatchingGraph$Graph"
  | 1 => .object "MatchingGraph$Matching"
  | 2 => .array .int
  | 3 => .array .int
  | 4 => .array .int
  | 5 => .int
  | _ => .int
abbrev wsX50 : List Cond := u_ws RX5 TX5 7
theorem nmX5 : ∀ a, a < 7 → ∀ b, b < 7 → a ≠ b → (TX5 a).2.1 ≠ (TX5 b).2.1 := by decide +kernel
theorem tyX5_ok : ∀ k, k < 7 → parseFieldDescriptor (TX5 k).2.2.1 = some (tyX5 k) := by decide +kernel
abbrev cX5_init : ByteArray := prog_7_method_1_code
def yX5_init : MethodName := ⟨RX5, "<init>", "(LMatchingGraph$Graph;LMatchingGraph$Matching;)V"⟩
abbrev cX5_numberPairs : ByteArray := prog_7_method_2_code
def yX5_numberPairs : MethodName := ⟨RX5, "numberPairs", "()V"⟩
abbrev cX5_findEnds : ByteArray := prog_7_method_3_code
def yX5_findEnds : MethodName := ⟨RX5, "findEnds", "(I)V"⟩
abbrev cX5_followFrom : ByteArray := prog_7_method_4_code
def yX5_followFrom : MethodName := ⟨RX5, "followFrom", "(III)V"⟩
abbrev cX5_findWay : ByteArray := prog_7_method_5_code
def yX5_findWay : MethodName := ⟨RX5, "findWay", "(I)I"⟩
abbrev cX5_followWay : ByteArray := prog_7_method_6_code
def yX5_followWay : MethodName := ⟨RX5, "followWay", "(III)Z"⟩
abbrev cX5_followWayTo : ByteArray := prog_7_method_7_code
def yX5_followWayTo : MethodName := ⟨RX5, "followWayTo", "(IIII)Z"⟩
def RX6 : String := "MatchingGraph"
def TX6 : u_T := fun k => match k with
  | 0 => ("MatchingGraph", "graph", "LMatchingGraph$Graph;", true)
  | 1 => ("MatchingGraph", "matching", "LMatchingGraph$Matching;", true)
  | 2 => ("MatchingGraph", "input", "LMatchingGraph$Input;", true)
  | 3 => ("MatchingGraph", "history", "LMatchingGraph$History;", true)
  | 4 => ("MatchingGraph", "paths", "LMatchingGraph$Paths;", true)
  | 5 => ("MatchingGraph", "maxima", "LMatchingGraph$Maxima;", true)
  | _ => ("MatchingGraph", "differing", "LMatchingGraph$Graph;", true)
def tyX6 : Nat → FieldType := fun k => match k with
  | 0 => .object "MatchingGraph$Graph"
  | 1 => .object "MatchingGraph$Matching"
  | 2 => .object "MatchingGraph$Input"
  | 3 => .object "MatchingGraph$History"
  | 4 => .object "MatchingGraph$Paths"
  | 5 => .object "MatchingGraph$Maxima"
  | _ => .object "MatchingGraph$Graph"
abbrev wsX60 : List Cond := u_ws RX6 TX6 7
theorem nmX6 : ∀ a, a < 7 → ∀ b, b < 7 → a ≠ b → (TX6 a).2.1 ≠ (TX6 b).2.1 := by decide +kernel
theorem tyX6_ok : ∀ k, k < 7 → parseFieldDescriptor (TX6 k).2.2.1 = some (tyX6 k) := by decide +kernel
abbrev cX6_init : ByteArray := prog_1_method_1_code
def yX6_init : MethodName := ⟨RX6, "<init>", "()V"⟩
abbrev cX6_begin : ByteArray := prog_1_method_2_code
def yX6_begin : MethodName := ⟨RX6, "begin", "(I)I"⟩
abbrev cX6_setEdge : ByteArray := prog_1_method_3_code
def yX6_setEdge : MethodName := ⟨RX6, "setEdge", "(IIZ)I"⟩
abbrev cX6_append : ByteArray := prog_1_method_4_code
def yX6_append : MethodName := ⟨RX6, "append", "(I)I"⟩
abbrev cX6_clearInput : ByteArray := prog_1_method_5_code
def yX6_clearInput : MethodName := ⟨RX6, "clearInput", "()I"⟩
abbrev cX6_firstError : ByteArray := prog_1_method_6_code
def yX6_firstError : MethodName := ⟨RX6, "firstError", "()I"⟩
abbrev cX6_load : ByteArray := prog_1_method_7_code
def yX6_load : MethodName := ⟨RX6, "load", "()I"⟩
abbrev cX6_addRead : ByteArray := prog_1_method_8_code
def yX6_addRead : MethodName := ⟨RX6, "addRead", "(IIZ)I"⟩
abbrev cX6_match : ByteArray := prog_1_method_9_code
def yX6_match : MethodName := ⟨RX6, "match", "(II)I"⟩
abbrev cX6_unmatch : ByteArray := prog_1_method_10_code
def yX6_unmatch : MethodName := ⟨RX6, "unmatch", "(I)I"⟩
abbrev cX6_augment : ByteArray := prog_1_method_11_code
def yX6_augment : MethodName := ⟨RX6, "augment", "(I)I"⟩
abbrev cX6_maximize : ByteArray := prog_1_method_12_code
def yX6_maximize : MethodName := ⟨RX6, "maximize", "()I"⟩
abbrev cX6_augmentLowest : ByteArray := prog_1_method_13_code
def yX6_augmentLowest : MethodName := ⟨RX6, "augmentLowest", "()Z"⟩
abbrev cX6_augmentFrom : ByteArray := prog_1_method_14_code
def yX6_augmentFrom : MethodName := ⟨RX6, "augmentFrom", "(I)I"⟩
abbrev cX6_takeFirst : ByteArray := prog_1_method_15_code
def yX6_takeFirst : MethodName := ⟨RX6, "takeFirst", "()I"⟩
abbrev cX6_undo : ByteArray := prog_1_method_16_code
def yX6_undo : MethodName := ⟨RX6, "undo", "()I"⟩
abbrev cX6_way : ByteArray := prog_1_method_17_code
def yX6_way : MethodName := ⟨RX6, "way", "(I)I"⟩
abbrev cX6_wayNode : ByteArray := prog_1_method_18_code
def yX6_wayNode : MethodName := ⟨RX6, "wayNode", "(II)I"⟩
abbrev cX6_reach : ByteArray := prog_1_method_19_code
def yX6_reach : MethodName := ⟨RX6, "reach", "(IZ)I"⟩
abbrev cX6_oddCycle : ByteArray := prog_1_method_20_code
def yX6_oddCycle : MethodName := ⟨RX6, "oddCycle", "()I"⟩
abbrev cX6_firstMate : ByteArray := prog_1_method_21_code
def yX6_firstMate : MethodName := ⟨RX6, "firstMate", "(I)I"⟩
abbrev cX6_proof : ByteArray := prog_1_method_22_code
def yX6_proof : MethodName := ⟨RX6, "proof", "()I"⟩
abbrev cX6_isProof : ByteArray := prog_1_method_23_code
def yX6_isProof : MethodName := ⟨RX6, "isProof", "(II)Z"⟩
abbrev cX6_components : ByteArray := prog_1_method_24_code
def yX6_components : MethodName := ⟨RX6, "components", "(IZ)I"⟩
abbrev cX6_ifChanged : ByteArray := prog_1_method_25_code
def yX6_ifChanged : MethodName := ⟨RX6, "ifChanged", "(II)I"⟩
abbrev cX6_node : ByteArray := prog_1_method_26_code
def yX6_node : MethodName := ⟨RX6, "node", "(II)I"⟩
abbrev cX6_partOf : ByteArray := prog_1_method_27_code
def yX6_partOf : MethodName := ⟨RX6, "partOf", "(I)I"⟩
abbrev cX6_edge : ByteArray := prog_1_method_28_code
def yX6_edge : MethodName := ⟨RX6, "edge", "(III)I"⟩
abbrev cX6_count : ByteArray := prog_1_method_29_code
def yX6_count : MethodName := ⟨RX6, "count", "(I)I"⟩
abbrev cX6_deficiency : ByteArray := prog_1_method_30_code
def yX6_deficiency : MethodName := ⟨RX6, "deficiency", "()I"⟩
abbrev cX6_difference : ByteArray := prog_1_method_31_code
def yX6_difference : MethodName := ⟨RX6, "difference", "(I)I"⟩
abbrev cX6_drawDifferences : ByteArray := prog_1_method_32_code
def yX6_drawDifferences : MethodName := ⟨RX6, "drawDifferences", "(LMatchingGraph$Matching;)V"⟩
abbrev cX6_meanUse : ByteArray := prog_1_method_33_code
def yX6_meanUse : MethodName := ⟨RX6, "meanUse", "()D"⟩
abbrev cX6_digest : ByteArray := prog_1_method_34_code
def yX6_digest : MethodName := ⟨RX6, "digest", "()J"⟩
abbrev cX6_mixNode : ByteArray := prog_1_method_35_code
def yX6_mixNode : MethodName := ⟨RX6, "mixNode", "(JI)J"⟩
abbrev cX6_mixPair : ByteArray := prog_1_method_36_code
def yX6_mixPair : MethodName := ⟨RX6, "mixPair", "(JII)J"⟩
abbrev cX6_mixInput : ByteArray := prog_1_method_37_code
def yX6_mixInput : MethodName := ⟨RX6, "mixInput", "(J)J"⟩
abbrev cX6_mix : ByteArray := prog_1_method_38_code
def yX6_mix : MethodName := ⟨RX6, "mix", "(JJ)J"⟩
abbrev cX6_requireNode : ByteArray := prog_1_method_39_code
def yX6_requireNode : MethodName := ⟨RX6, "requireNode", "(I)V"⟩
abbrev cX6_requireDifferent : ByteArray := prog_1_method_40_code
def yX6_requireDifferent : MethodName := ⟨RX6, "requireDifferent", "(II)V"⟩
abbrev cX6_requireExposed : ByteArray := prog_1_method_41_code
def yX6_requireExposed : MethodName := ⟨RX6, "requireExposed", "(I)V"⟩
def RX7 : String := "MatchingGraphModel"
def TX7 : u_T := fun k => match k with
  | 0 => ("MatchingGraphModel", "thrown", "I", false)
  | 1 => ("MatchingGraphModel", "n", "I", false)
  | 2 => ("MatchingGraphModel", "adjacent", "[I", true)
  | 3 => ("MatchingGraphModel", "mate", "[I", true)
  | 4 => ("MatchingGraphModel", "kept", "I", false)
  | 5 => ("MatchingGraphModel", "old", "[I", true)
  | 6 => ("MatchingGraphModel", "length", "I", false)
  | 7 => ("MatchingGraphModel", "buffer", "[I", true)
  | 8 => ("MatchingGraphModel", "best", "[I", true)
  | 9 => ("MatchingGraphModel", "ways", "[I", true)
  | 10 => ("MatchingGraphModel", "first", "[I", true)
  | 11 => ("MatchingGraphModel", "path", "[I", true)
  | 12 => ("MatchingGraphModel", "next", "[I", true)
  | 13 => ("MatchingGraphModel", "oddReach", "I", false)
  | 14 => ("MatchingGraphModel", "evenReach", "I", false)
  | 15 => ("MatchingGraphModel", "place", "I", false)
  | 16 => ("MatchingGraphModel", "edges", "I", false)
  | 17 => ("MatchingGraphModel", "edge", "[I", true)
  | _ => ("MatchingGraphModel", "hash", "J", false)
def tyX7 : Nat → FieldType := fun k => match k with
  | 0 => .int
  | 1 => .int
  | 2 => .array .int
  | 3 => .array .int
  | 4 => .int
  | 5 => .array .int
  | 6 => .int
  | 7 => .array .int
  | 8 => .array .int
  | 9 => .array .int
  | 10 => .array .int
  | 11 => .array .int
  | 12 => .array .int
  | 13 => .int
  | 14 => .int
  | 15 => .int
  | 16 => .int
  | 17 => .array .int
  | _ => .long
abbrev wsX70 : List Cond := u_ws RX7 TX7 19
theorem nmX7 : ∀ a, a < 19 → ∀ b, b < 19 → a ≠ b → (TX7 a).2.1 ≠ (TX7 b).2.1 := by decide +kernel
theorem tyX7_ok : ∀ k, k < 19 → parseFieldDescriptor (TX7 k).2.2.1 = some (tyX7 k) := by decide +kernel
abbrev cX7_init : ByteArray := prog_9_method_1_code
def yX7_init : MethodName := ⟨RX7, "<init>", "()V"⟩
abbrev cX7_thrown : ByteArray := prog_9_method_2_code
def yX7_thrown : MethodName := ⟨RX7, "thrown", "()I"⟩
abbrev cX7_within : ByteArray := prog_9_method_3_code
def yX7_within : MethodName := ⟨RX7, "within", "(III)Z"⟩
abbrev cX7_has : ByteArray := prog_9_method_4_code
def yX7_has : MethodName := ⟨RX7, "has", "(II)Z"⟩
abbrev cX7_bits : ByteArray := prog_9_method_5_code
def yX7_bits : MethodName := ⟨RX7, "bits", "(I)I"⟩
abbrev cX7_isNode : ByteArray := prog_9_method_6_code
def yX7_isNode : MethodName := ⟨RX7, "isNode", "(I)Z"⟩
abbrev cX7_all : ByteArray := prog_9_method_7_code
def yX7_all : MethodName := ⟨RX7, "all", "()I"⟩
abbrev cX7_clearAll : ByteArray := prog_9_method_8_code
def yX7_clearAll : MethodName := ⟨RX7, "clearAll", "()V"⟩
abbrev cX7_flip : ByteArray := prog_9_method_9_code
def yX7_flip : MethodName := ⟨RX7, "flip", "(II)V"⟩
abbrev cX7_pair : ByteArray := prog_9_method_10_code
def yX7_pair : MethodName := ⟨RX7, "pair", "(II)V"⟩
abbrev cX7_part : ByteArray := prog_9_method_11_code
def yX7_part : MethodName := ⟨RX7, "part", "(I)V"⟩
abbrev cX7_keep : ByteArray := prog_9_method_12_code
def yX7_keep : MethodName := ⟨RX7, "keep", "()V"⟩
abbrev cX7_note : ByteArray := prog_9_method_13_code
def yX7_note : MethodName := ⟨RX7, "note", "(III)V"⟩
abbrev cX7_laySets : ByteArray := prog_9_method_14_code
def yX7_laySets : MethodName := ⟨RX7, "laySets", "()V"⟩
abbrev cX7_layFirst : ByteArray := prog_9_method_15_code
def yX7_layFirst : MethodName := ⟨RX7, "layFirst", "()V"⟩
abbrev cX7_exposing : ByteArray := prog_9_method_16_code
def yX7_exposing : MethodName := ⟨RX7, "exposing", "(I)I"⟩
abbrev cX7_using : ByteArray := prog_9_method_17_code
def yX7_using : MethodName := ⟨RX7, "using", "(II)I"⟩
abbrev cX7_partOf : ByteArray := prog_9_method_18_code
def yX7_partOf : MethodName := ⟨RX7, "partOf", "(I)I"⟩
abbrev cX7_isCritical : ByteArray := prog_9_method_19_code
def yX7_isCritical : MethodName := ⟨RX7, "isCritical", "()Z"⟩
abbrev cX7_componentOf : ByteArray := prog_9_method_20_code
def yX7_componentOf : MethodName := ⟨RX7, "componentOf", "(II)I"⟩
abbrev cX7_componentsOf : ByteArray := prog_9_method_21_code
def yX7_componentsOf : MethodName := ⟨RX7, "componentsOf", "(IZ)I"⟩
abbrev cX7_lowest : ByteArray := prog_9_method_22_code
def yX7_lowest : MethodName := ⟨RX7, "lowest", "(I)I"⟩
abbrev cX7_proofNow : ByteArray := prog_9_method_23_code
def yX7_proofNow : MethodName := ⟨RX7, "proofNow", "()I"⟩
abbrev cX7_step : ByteArray := prog_9_method_24_code
def yX7_step : MethodName := ⟨RX7, "step", "(III)I"⟩
abbrev cX7_goThrough : ByteArray := prog_9_method_25_code
def yX7_goThrough : MethodName := ⟨RX7, "goThrough", "(II)Z"⟩
abbrev cX7_layWay : ByteArray := prog_9_method_26_code
def yX7_layWay : MethodName := ⟨RX7, "layWay", "(I)I"⟩
abbrev cX7_layReach : ByteArray := prog_9_method_27_code
def yX7_layReach : MethodName := ⟨RX7, "layReach", "(I)V"⟩
abbrev cX7_augmentFrom : ByteArray := prog_9_method_28_code
def yX7_augmentFrom : MethodName := ⟨RX7, "augmentFrom", "(I)I"⟩
abbrev cX7_begin : ByteArray := prog_9_method_29_code
def yX7_begin : MethodName := ⟨RX7, "begin", "(I)I"⟩
abbrev cX7_setEdge : ByteArray := prog_9_method_30_code
def yX7_setEdge : MethodName := ⟨RX7, "setEdge", "(IIZ)I"⟩
abbrev cX7_append : ByteArray := prog_9_method_31_code
def yX7_append : MethodName := ⟨RX7, "append", "(I)I"⟩
abbrev cX7_clearInput : ByteArray := prog_9_method_32_code
def yX7_clearInput : MethodName := ⟨RX7, "clearInput", "()I"⟩
abbrev cX7_takes : ByteArray := prog_9_method_33_code
def yX7_takes : MethodName := ⟨RX7, "takes", "(I)Z"⟩
abbrev cX7_rightLength : ByteArray := prog_9_method_34_code
def yX7_rightLength : MethodName := ⟨RX7, "rightLength", "()I"⟩
abbrev cX7_firstError : ByteArray := prog_9_method_35_code
def yX7_firstError : MethodName := ⟨RX7, "firstError", "()I"⟩
abbrev cX7_load : ByteArray := prog_9_method_36_code
def yX7_load : MethodName := ⟨RX7, "load", "()I"⟩
abbrev cX7_size : ByteArray := prog_9_method_37_code
def yX7_size : MethodName := ⟨RX7, "size", "()I"⟩
abbrev cX7_match : ByteArray := prog_9_method_38_code
def yX7_match : MethodName := ⟨RX7, "match", "(II)I"⟩
abbrev cX7_unmatch : ByteArray := prog_9_method_39_code
def yX7_unmatch : MethodName := ⟨RX7, "unmatch", "(I)I"⟩
abbrev cX7_exposedFault : ByteArray := prog_9_method_40_code
def yX7_exposedFault : MethodName := ⟨RX7, "exposedFault", "(I)I"⟩
abbrev cX7_augment : ByteArray := prog_9_method_41_code
def yX7_augment : MethodName := ⟨RX7, "augment", "(I)I"⟩
abbrev cX7_lowestWithWay : ByteArray := prog_9_method_42_code
def yX7_lowestWithWay : MethodName := ⟨RX7, "lowestWithWay", "()I"⟩
abbrev cX7_maximize : ByteArray := prog_9_method_43_code
def yX7_maximize : MethodName := ⟨RX7, "maximize", "()I"⟩
abbrev cX7_takeFirst : ByteArray := prog_9_method_44_code
def yX7_takeFirst : MethodName := ⟨RX7, "takeFirst", "()I"⟩
abbrev cX7_undo : ByteArray := prog_9_method_45_code
def yX7_undo : MethodName := ⟨RX7, "undo", "()I"⟩
abbrev cX7_way : ByteArray := prog_9_method_46_code
def yX7_way : MethodName := ⟨RX7, "way", "(I)I"⟩
abbrev cX7_wayNode : ByteArray := prog_9_method_47_code
def yX7_wayNode : MethodName := ⟨RX7, "wayNode", "(II)I"⟩
abbrev cX7_reach : ByteArray := prog_9_method_48_code
def yX7_reach : MethodName := ⟨RX7, "reach", "(IZ)I"⟩
abbrev cX7_oddWalk : ByteArray := prog_9_method_49_code
def yX7_oddWalk : MethodName := ⟨RX7, "oddWalk", "(I)I"⟩
abbrev cX7_oddCycleNow : ByteArray := prog_9_method_50_code
def yX7_oddCycleNow : MethodName := ⟨RX7, "oddCycleNow", "()I"⟩
abbrev cX7_oddCycle : ByteArray := prog_9_method_51_code
def yX7_oddCycle : MethodName := ⟨RX7, "oddCycle", "()I"⟩
abbrev cX7_firstMate : ByteArray := prog_9_method_52_code
def yX7_firstMate : MethodName := ⟨RX7, "firstMate", "(I)I"⟩
abbrev cX7_proof : ByteArray := prog_9_method_53_code
def yX7_proof : MethodName := ⟨RX7, "proof", "()I"⟩
abbrev cX7_components : ByteArray := prog_9_method_54_code
def yX7_components : MethodName := ⟨RX7, "components", "(IZ)I"⟩
abbrev cX7_ifChanged : ByteArray := prog_9_method_55_code
def yX7_ifChanged : MethodName := ⟨RX7, "ifChanged", "(II)I"⟩
abbrev cX7_nodeNow : ByteArray := prog_9_method_56_code
def yX7_nodeNow : MethodName := ⟨RX7, "nodeNow", "(II)I"⟩
abbrev cX7_node : ByteArray := prog_9_method_57_code
def yX7_node : MethodName := ⟨RX7, "node", "(II)I"⟩
abbrev cX7_edgeNow : ByteArray := prog_9_method_58_code
def yX7_edgeNow : MethodName := ⟨RX7, "edgeNow", "(III)I"⟩
abbrev cX7_edge : ByteArray := prog_9_method_59_code
def yX7_edge : MethodName := ⟨RX7, "edge", "(III)I"⟩
abbrev cX7_edgeCount : ByteArray := prog_9_method_60_code
def yX7_edgeCount : MethodName := ⟨RX7, "edgeCount", "()I"⟩
abbrev cX7_edgesIn : ByteArray := prog_9_method_61_code
def yX7_edgesIn : MethodName := ⟨RX7, "edgesIn", "(I)I"⟩
abbrev cX7_counted : ByteArray := prog_9_method_62_code
def yX7_counted : MethodName := ⟨RX7, "counted", "(I)I"⟩
abbrev cX7_count : ByteArray := prog_9_method_63_code
def yX7_count : MethodName := ⟨RX7, "count", "(I)I"⟩
abbrev cX7_differs : ByteArray := prog_9_method_64_code
def yX7_differs : MethodName := ⟨RX7, "differs", "(I)Z"⟩
abbrev cX7_joined : ByteArray := prog_9_method_65_code
def yX7_joined : MethodName := ⟨RX7, "joined", "(I)I"⟩
abbrev cX7_isRing : ByteArray := prog_9_method_66_code
def yX7_isRing : MethodName := ⟨RX7, "isRing", "(I)Z"⟩
abbrev cX7_differenceNow : ByteArray := prog_9_method_67_code
def yX7_differenceNow : MethodName := ⟨RX7, "differenceNow", "(I)I"⟩
abbrev cX7_difference : ByteArray := prog_9_method_68_code
def yX7_difference : MethodName := ⟨RX7, "difference", "(I)I"⟩
abbrev cX7_meanUse : ByteArray := prog_9_method_69_code
def yX7_meanUse : MethodName := ⟨RX7, "meanUse", "()D"⟩
abbrev cX7_mix : ByteArray := prog_9_method_70_code
def yX7_mix : MethodName := ⟨RX7, "mix", "(J)V"⟩
abbrev cX7_mixNode : ByteArray := prog_9_method_71_code
def yX7_mixNode : MethodName := ⟨RX7, "mixNode", "(I)V"⟩
abbrev cX7_mixPairs : ByteArray := prog_9_method_72_code
def yX7_mixPairs : MethodName := ⟨RX7, "mixPairs", "()V"⟩
abbrev cX7_digest : ByteArray := prog_9_method_73_code
def yX7_digest : MethodName := ⟨RX7, "digest", "()J"⟩
def RJx145de : String := "java/io/Serializable"
def TJx145de : u_T := fun k => match k with
  | _ => ("", "", "", false)
def tyJx145de : Nat → FieldType := fun k => match k with
  | _ => .int
abbrev wsJx145de0 : List Cond := u_ws RJx145de TJx145de 0
theorem nmJx145de : ∀ a, a < 0 → ∀ b, b < 0 → a ≠ b → (TJx145de a).2.1 ≠ (TJx145de b).2.1 := by decide +kernel
theorem tyJx145de_ok : ∀ k, k < 0 → parseFieldDescriptor (TJx145de k).2.2.1 = some (tyJx145de k) := by decide +kernel
def RJ6 : String := "java/lang/Integer"
def TJ6 : u_T := fun k => match k with
  | _ => ("", "", "", false)
def tyJ6 : Nat → FieldType := fun k => match k with
  | _ => .int
abbrev wsJ60 : List Cond := u_ws RJ6 TJ6 0
theorem nmJ6 : ∀ a, a < 0 → ∀ b, b < 0 → a ≠ b → (TJ6 a).2.1 ≠ (TJ6 b).2.1 := by decide +kernel
theorem tyJ6_ok : ∀ k, k < 0 → parseFieldDescriptor (TJ6 k).2.2.1 = some (tyJ6 k) := by decide +kernel
abbrev cJ6_numberOfTrailingZeros_0f7a4 : ByteArray := prog_14_method_48_code
def yJ6_numberOfTrailingZeros_0f7a4 : MethodName := ⟨RJ6, "numberOfTrailingZeros", "(I)I"⟩
abbrev cJ6_bitCount_0f7a4 : ByteArray := prog_14_method_49_code
def yJ6_bitCount_0f7a4 : MethodName := ⟨RJ6, "bitCount", "(I)I"⟩
def RJ9 : String := "java/lang/Math"
def TJ9 : u_T := fun k => match k with
  | _ => ("", "", "", false)
def tyJ9 : Nat → FieldType := fun k => match k with
  | _ => .int
abbrev wsJ90 : List Cond := u_ws RJ9 TJ9 0
theorem nmJ9 : ∀ a, a < 0 → ∀ b, b < 0 → a ≠ b → (TJ9 a).2.1 ≠ (TJ9 b).2.1 := by decide +kernel
theorem tyJ9_ok : ∀ k, k < 0 → parseFieldDescriptor (TJ9 k).2.2.1 = some (tyJ9 k) := by decide +kernel
abbrev cJ9_max_7cf53 : ByteArray := prog_15_method_65_code
def yJ9_max_7cf53 : MethodName := ⟨RJ9, "max", "(II)I"⟩
abbrev cJ9_min_7cf53 : ByteArray := prog_15_method_69_code
def yJ9_min_7cf53 : MethodName := ⟨RJ9, "min", "(II)I"⟩
def RJ0 : String := "java/lang/String"
def TJ0 : u_T := fun k => match k with
  | _ => ("", "", "", false)
def tyJ0 : Nat → FieldType := fun k => match k with
  | _ => .int
abbrev wsJ00 : List Cond := u_ws RJ0 TJ0 0
theorem nmJ0 : ∀ a, a < 0 → ∀ b, b < 0 → a ≠ b → (TJ0 a).2.1 ≠ (TJ0 b).2.1 := by decide +kernel
theorem tyJ0_ok : ∀ k, k < 0 → parseFieldDescriptor (TJ0 k).2.2.1 = some (tyJ0 k) := by decide +kernel
def RJ10 : String := "java/lang/System"
def TJ10 : u_T := fun k => match k with
  | _ => ("", "", "", false)
def tyJ10 : Nat → FieldType := fun k => match k with
  | _ => .int
abbrev wsJ100 : List Cond := u_ws RJ10 TJ10 0
theorem nmJ10 : ∀ a, a < 0 → ∀ b, b < 0 → a ≠ b → (TJ10 a).2.1 ≠ (TJ10 b).2.1 := by decide +kernel
theorem tyJ10_ok : ∀ k, k < 0 → parseFieldDescriptor (TJ10 k).2.2.1 = some (tyJ10 k) := by decide +kernel
def RJ7 : String := "java/util/Arrays"
def TJ7 : u_T := fun k => match k with
  | _ => ("", "", "", false)
def tyJ7 : Nat → FieldType := fun k => match k with
  | _ => .int
abbrev wsJ70 : List Cond := u_ws RJ7 TJ7 0
theorem nmJ7 : ∀ a, a < 0 → ∀ b, b < 0 → a ≠ b → (TJ7 a).2.1 ≠ (TJ7 b).2.1 := by decide +kernel
theorem tyJ7_ok : ∀ k, k < 0 → parseFieldDescriptor (TJ7 k).2.2.1 = some (tyJ7 k) := by decide +kernel
abbrev cJ7_fill_53178 : ByteArray := prog_20_method_103_code
def yJ7_fill_53178 : MethodName := ⟨RJ7, "fill", "([II)V"⟩
def RL : String := "MatchingGraphLaw"
abbrev cL_begin : ByteArray := method_3_code
def yL_begin : MethodName := ⟨RL, "begin", "(LMatchingGraph;I[J)I"⟩
abbrev cL_setEdge : ByteArray := method_4_code
def yL_setEdge : MethodName := ⟨RL, "setEdge", "(LMatchingGraph;IIZ[J)I"⟩
abbrev cL_append : ByteArray := method_5_code
def yL_append : MethodName := ⟨RL, "append", "(LMatchingGraph;I[J)I"⟩
abbrev cL_load : ByteArray := method_6_code
def yL_load : MethodName := ⟨RL, "load", "(LMatchingGraph;[J)I"⟩
abbrev cL_match : ByteArray := method_7_code
def yL_match : MethodName := ⟨RL, "match", "(LMatchingGraph;II[J)I"⟩
abbrev cL_unmatch : ByteArray := method_8_code
def yL_unmatch : MethodName := ⟨RL, "unmatch", "(LMatchingGraph;I[J)I"⟩
abbrev cL_augment : ByteArray := method_9_code
def yL_augment : MethodName := ⟨RL, "augment", "(LMatchingGraph;I[J)I"⟩
abbrev cL_undo : ByteArray := method_10_code
def yL_undo : MethodName := ⟨RL, "undo", "(LMatchingGraph;[J)I"⟩
abbrev cL_way : ByteArray := method_11_code
def yL_way : MethodName := ⟨RL, "way", "(LMatchingGraph;I[J)I"⟩
abbrev cL_wayNode : ByteArray := method_12_code
def yL_wayNode : MethodName := ⟨RL, "wayNode", "(LMatchingGraph;II[J)I"⟩
abbrev cL_reach : ByteArray := method_13_code
def yL_reach : MethodName := ⟨RL, "reach", "(LMatchingGraph;IZ[J)I"⟩
abbrev cL_firstMate : ByteArray := method_14_code
def yL_firstMate : MethodName := ⟨RL, "firstMate", "(LMatchingGraph;I[J)I"⟩
abbrev cL_components : ByteArray := method_15_code
def yL_components : MethodName := ⟨RL, "components", "(LMatchingGraph;IZ[J)I"⟩
abbrev cL_ifChanged : ByteArray := method_16_code
def yL_ifChanged : MethodName := ⟨RL, "ifChanged", "(LMatchingGraph;II[J)I"⟩
abbrev cL_node : ByteArray := method_17_code
def yL_node : MethodName := ⟨RL, "node", "(LMatchingGraph;II[J)I"⟩
abbrev cL_edge : ByteArray := method_18_code
def yL_edge : MethodName := ⟨RL, "edge", "(LMatchingGraph;III[J)I"⟩
abbrev cL_count : ByteArray := method_19_code
def yL_count : MethodName := ⟨RL, "count", "(LMatchingGraph;I[J)I"⟩
abbrev cL_difference : ByteArray := method_20_code
def yL_difference : MethodName := ⟨RL, "difference", "(LMatchingGraph;I[J)I"⟩
abbrev cL_law : ByteArray := code
def yL_law : MethodName := ⟨RL, "law", "([I)Z"⟩
abbrev vwCl : List vw_C := [(RX0, TX0, 3), (RX1, TX1, 4), (RX2, TX2, 2), (RX3, TX3, 1), (RX4, TX4, 6), (RX5, TX5, 7), (RX6, TX6, 7), (RX7, TX7, 19)]
/-- the words that all contracts stand on: the tables' good ones -/
def WS : List Cond := lw_tbl.filter goodWord
theorem ws_in {w : Cond} (i : Nat) (h : lw_tbl[i]? = some w) (hg : goodWord w = true) : w ∈ WS := List.mem_filter.mpr ⟨List.mem_of_getElem? h, hg⟩
theorem ws_tin {w : Cond} (i : Nat) (h : tables_1[i]? = some w) (hg : goodWord w = true) : w ∈ WS := List.mem_filter.mpr ⟨List.mem_append_right _ (List.mem_of_getElem? h), hg⟩
theorem ws_pin {w : Cond} (i : Nat) (h : (k2_sels lw_privs)[i]? = some w) (hg : goodWord w = true) : w ∈ WS := List.mem_filter.mpr ⟨List.mem_append_left _ (List.mem_of_getElem? h), hg⟩
theorem ws_tbl {w : Cond} (h : w ∈ WS) : w ∈ lw_tbl := (List.mem_filter.mp h).1
theorem ws_gd {w : Cond} (h : w ∈ WS) : goodWord w = true := (List.mem_filter.mp h).2
theorem q_0 : (Jvm.Cond.initialized "MatchingGraphLaw") ∈ WS := ws_tin 0 (by decide +kernel) (by decide +kernel)
theorem q_1 : (Jvm.Cond.initialized "MatchingGraph") ∈ WS := ws_tin 1 (by decide +kernel) (by decide +kernel)
theorem q_2 : (Jvm.Cond.initialized "MatchingGraph$Graph") ∈ WS := ws_tin 2 (by decide +kernel) (by decide +kernel)
theorem q_3 : (Jvm.Cond.initialized "MatchingGraph$Matching") ∈ WS := ws_tin 3 (by decide +kernel) (by decide +kernel)
theorem q_4 : (Jvm.Cond.initialized "java/util/Arrays") ∈ WS := ws_tin 4 (by decide +kernel) (by decide +kernel)
theorem q_5 : (Jvm.Cond.initialized "MatchingGraph$Input") ∈ WS := ws_tin 5 (by decide +kernel) (by decide +kernel)
theorem q_6 : (Jvm.Cond.initialized "MatchingGraph$History") ∈ WS := ws_tin 6 (by decide +kernel) (by decide +kernel)
theorem q_7 : (Jvm.Cond.initialized "MatchingGraph$Paths") ∈ WS := ws_tin 7 (by decide +kernel) (by decide +kernel)
theorem q_8 : (Jvm.Cond.initialized "MatchingGraph$Maxima") ∈ WS := ws_tin 8 (by decide +kernel) (by decide +kernel)
theorem q_9 : (Jvm.Cond.initialized "MatchingGraphModel") ∈ WS := ws_tin 9 (by decide +kernel) (by decide +kernel)
theorem q_10 : (Jvm.Cond.initialized "java/lang/Throwable") ∈ WS := ws_tin 10 (by decide +kernel) (by decide +kernel)
theorem q_11 : (Jvm.Cond.initialized "java/lang/Exception") ∈ WS := ws_tin 11 (by decide +kernel) (by decide +kernel)
theorem q_12 : (Jvm.Cond.initialized "java/lang/RuntimeException") ∈ WS := ws_tin 12 (by decide +kernel) (by decide +kernel)
theorem q_13 : (Jvm.Cond.initialized "java/lang/IllegalArgumentException") ∈ WS := ws_tin 13 (by decide +kernel) (by decide +kernel)
theorem q_14 : (Jvm.Cond.initialized "java/lang/IndexOutOfBoundsException") ∈ WS := ws_tin 14 (by decide +kernel) (by decide +kernel)
theorem q_15 : (Jvm.Cond.initialized "java/lang/System") ∈ WS := ws_tin 15 (by decide +kernel) (by decide +kernel)
theorem q_16 : (Jvm.Cond.initialized "java/lang/Math") ∈ WS := ws_tin 16 (by decide +kernel) (by decide +kernel)
theorem q_17 : (Jvm.Cond.initialized "java/lang/IllegalStateException") ∈ WS := ws_tin 17 (by decide +kernel) (by decide +kernel)
theorem q_18 : (Jvm.Cond.initialized "java/lang/Integer") ∈ WS := ws_tin 18 (by decide +kernel) (by decide +kernel)
theorem q_19 : (Jvm.Cond.classLink "MatchingGraphLaw" (8 : Nat) "MatchingGraph") ∈ WS := ws_tin 19 (by decide +kernel) (by decide +kernel)
theorem q_20 : (Jvm.Cond.instantiable "MatchingGraph" (7 : Nat)) ∈ WS := ws_tin 20 (by decide +kernel) (by decide +kernel)
theorem q_21 : (Jvm.Cond.methodLink "MatchingGraphLaw" (75 : Nat) ({ cls := "MatchingGraph", name := "<init>", desc := "()V" } : Jvm.MethodName)) ∈ WS := ws_tin 21 (by decide +kernel) (by decide +kernel)
theorem q_22 : (Jvm.Cond.instanceMethod ({ cls := "MatchingGraph", name := "<init>", desc := "()V" } : Jvm.MethodName)) ∈ WS := ws_tin 22 (by decide +kernel) (by decide +kernel)
theorem q_23 : (Jvm.Cond.code ({ cls := "MatchingGraph", name := "<init>", desc := "()V" } : Jvm.MethodName) prog_1_method_1_code (1 : Nat) (Option.none : Option Jvm.ClassFile.FieldType)) ∈ WS := ws_tin 23 (by decide +kernel) (by decide +kernel)
theorem q_24 : (Jvm.Cond.methodLink "MatchingGraph" (3 : Nat) ({ cls := "java/lang/Object", name := "<init>", desc := "()V" } : Jvm.MethodName)) ∈ WS := ws_tin 24 (by decide +kernel) (by decide +kernel)
theorem q_25 : (Jvm.Cond.instanceMethod ({ cls := "java/lang/Object", name := "<init>", desc := "()V" } : Jvm.MethodName)) ∈ WS := ws_tin 25 (by decide +kernel) (by decide +kernel)
theorem q_26 : (Jvm.Cond.code ({ cls := "java/lang/Object", name := "<init>", desc := "()V" } : Jvm.MethodName) object_method_1_code (1 : Nat) (Option.none : Option Jvm.ClassFile.FieldType)) ∈ WS := ws_tin 26 (by decide +kernel) (by decide +kernel)
theorem q_27 : (Jvm.Cond.classLink "MatchingGraph" (9 : Nat) "MatchingGraph$Graph") ∈ WS := ws_tin 27 (by decide +kernel) (by decide +kernel)
theorem q_28 : (Jvm.Cond.instantiable "MatchingGraph$Graph" (3 : Nat)) ∈ WS := ws_tin 28 (by decide +kernel) (by decide +kernel)
theorem q_30 : (Jvm.Cond.instanceMethod ({ cls := "MatchingGraph$Graph", name := "<init>", desc := "()V" } : Jvm.MethodName)) ∈ WS := ws_tin 30 (by decide +kernel) (by decide +kernel)
theorem q_31 : (Jvm.Cond.code ({ cls := "MatchingGraph$Graph", name := "<init>", desc := "()V" } : Jvm.MethodName) prog_2_method_1_code (1 : Nat) (Option.none : Option Jvm.ClassFile.FieldType)) ∈ WS := ws_tin 31 (by decide +kernel) (by decide +kernel)
theorem q_32 : (Jvm.Cond.methodLink "MatchingGraph$Graph" (3 : Nat) ({ cls := "java/lang/Object", name := "<init>", desc := "()V" } : Jvm.MethodName)) ∈ WS := ws_tin 32 (by decide +kernel) (by decide +kernel)
theorem q_33 : (Jvm.Cond.fieldLink "MatchingGraph$Graph" (9 : Nat) "MatchingGraph$Graph" "nodes" "I") ∈ WS := ws_tin 33 (by decide +kernel) (by decide +kernel)
theorem q_37 : (Jvm.Cond.fieldLink "MatchingGraph$Graph" (15 : Nat) "MatchingGraph$Graph" "near" "[I") ∈ WS := ws_tin 37 (by decide +kernel) (by decide +kernel)
theorem q_41 : (Jvm.Cond.fieldLink "MatchingGraph$Graph" (19 : Nat) "MatchingGraph$Graph" "changes" "I") ∈ WS := ws_tin 41 (by decide +kernel) (by decide +kernel)
theorem q_43 : (Jvm.Cond.lays "MatchingGraph$Graph" "MatchingGraph$Graph" "nodes" "I") ∈ WS := ws_tin 43 (by decide +kernel) (by decide +kernel)
theorem q_45 : (Jvm.Cond.laysFinal "MatchingGraph$Graph" "MatchingGraph$Graph" "near" "[I") ∈ WS := ws_tin 45 (by decide +kernel) (by decide +kernel)
theorem q_47 : (Jvm.Cond.lays "MatchingGraph$Graph" "MatchingGraph$Graph" "changes" "I") ∈ WS := ws_tin 47 (by decide +kernel) (by decide +kernel)
theorem q_50 : (Jvm.Cond.arrayClass Jvm.ClassFile.FieldType.int) ∈ WS := ws_tin 50 (by decide +kernel) (by decide +kernel)
theorem q_51 : (Jvm.Cond.classLink "MatchingGraph" (16 : Nat) "MatchingGraph$Matching") ∈ WS := ws_tin 51 (by decide +kernel) (by decide +kernel)
theorem q_52 : (Jvm.Cond.instantiable "MatchingGraph$Matching" (1 : Nat)) ∈ WS := ws_tin 52 (by decide +kernel) (by decide +kernel)
theorem q_53 : (Jvm.Cond.methodLink "MatchingGraph" (18 : Nat) ({ cls := "MatchingGraph$Matching", name := "<init>", desc := "()V" } : Jvm.MethodName)) ∈ WS := ws_tin 53 (by decide +kernel) (by decide +kernel)
theorem q_54 : (Jvm.Cond.instanceMethod ({ cls := "MatchingGraph$Matching", name := "<init>", desc := "()V" } : Jvm.MethodName)) ∈ WS := ws_tin 54 (by decide +kernel) (by decide +kernel)
theorem q_55 : (Jvm.Cond.code ({ cls := "MatchingGraph$Matching", name := "<init>", desc := "()V" } : Jvm.MethodName) prog_5_method_1_code (1 : Nat) (Option.none : Option Jvm.ClassFile.FieldType)) ∈ WS := ws_tin 55 (by decide +kernel) (by decide +kernel)
theorem q_56 : (Jvm.Cond.methodLink "MatchingGraph$Matching" (3 : Nat) ({ cls := "java/lang/Object", name := "<init>", desc := "()V" } : Jvm.MethodName)) ∈ WS := ws_tin 56 (by decide +kernel) (by decide +kernel)
theorem q_57 : (Jvm.Cond.methodLink "MatchingGraph$Matching" (15 : Nat) ({ cls := "java/util/Arrays", name := "fill", desc := "([II)V" } : Jvm.MethodName)) ∈ WS := ws_tin 57 (by decide +kernel) (by decide +kernel)
theorem q_58 : (Jvm.Cond.static ({ cls := "java/util/Arrays", name := "fill", desc := "([II)V" } : Jvm.MethodName)) ∈ WS := ws_tin 58 (by decide +kernel) (by decide +kernel)
theorem q_59 : (Jvm.Cond.code ({ cls := "java/util/Arrays", name := "fill", desc := "([II)V" } : Jvm.MethodName) prog_20_method_103_code (4 : Nat) (Option.none : Option Jvm.ClassFile.FieldType)) ∈ WS := ws_tin 59 (by decide +kernel) (by decide +kernel)
theorem q_60 : (Jvm.Cond.fieldLink "MatchingGraph$Matching" (9 : Nat) "MatchingGraph$Matching" "mate" "[I") ∈ WS := ws_tin 60 (by decide +kernel) (by decide +kernel)
theorem q_64 : (Jvm.Cond.laysFinal "MatchingGraph$Matching" "MatchingGraph$Matching" "mate" "[I") ∈ WS := ws_tin 64 (by decide +kernel) (by decide +kernel)
theorem q_67 : (Jvm.Cond.classLink "MatchingGraph" (23 : Nat) "MatchingGraph$Input") ∈ WS := ws_tin 67 (by decide +kernel) (by decide +kernel)
theorem q_68 : (Jvm.Cond.instantiable "MatchingGraph$Input" (2 : Nat)) ∈ WS := ws_tin 68 (by decide +kernel) (by decide +kernel)
theorem q_70 : (Jvm.Cond.instanceMethod ({ cls := "MatchingGraph$Input", name := "<init>", desc := "()V" } : Jvm.MethodName)) ∈ WS := ws_tin 70 (by decide +kernel) (by decide +kernel)
theorem q_71 : (Jvm.Cond.code ({ cls := "MatchingGraph$Input", name := "<init>", desc := "()V" } : Jvm.MethodName) prog_4_method_1_code (1 : Nat) (Option.none : Option Jvm.ClassFile.FieldType)) ∈ WS := ws_tin 71 (by decide +kernel) (by decide +kernel)
theorem q_72 : (Jvm.Cond.methodLink "MatchingGraph$Input" (3 : Nat) ({ cls := "java/lang/Object", name := "<init>", desc := "()V" } : Jvm.MethodName)) ∈ WS := ws_tin 72 (by decide +kernel) (by decide +kernel)
theorem q_73 : (Jvm.Cond.fieldLink "MatchingGraph$Input" (9 : Nat) "MatchingGraph$Input" "codes" "[I") ∈ WS := ws_tin 73 (by decide +kernel) (by decide +kernel)
theorem q_75 : (Jvm.Cond.fieldLink "MatchingGraph$Input" (15 : Nat) "MatchingGraph$Input" "length" "I") ∈ WS := ws_tin 75 (by decide +kernel) (by decide +kernel)
theorem q_77 : (Jvm.Cond.laysFinal "MatchingGraph$Input" "MatchingGraph$Input" "codes" "[I") ∈ WS := ws_tin 77 (by decide +kernel) (by decide +kernel)
theorem q_79 : (Jvm.Cond.lays "MatchingGraph$Input" "MatchingGraph$Input" "length" "I") ∈ WS := ws_tin 79 (by decide +kernel) (by decide +kernel)
theorem q_82 : (Jvm.Cond.classLink "MatchingGraph" (30 : Nat) "MatchingGraph$History") ∈ WS := ws_tin 82 (by decide +kernel) (by decide +kernel)
theorem q_83 : (Jvm.Cond.instantiable "MatchingGraph$History" (4 : Nat)) ∈ WS := ws_tin 83 (by decide +kernel) (by decide +kernel)
theorem q_85 : (Jvm.Cond.instanceMethod ({ cls := "MatchingGraph$History", name := "<init>", desc := "()V" } : Jvm.MethodName)) ∈ WS := ws_tin 85 (by decide +kernel) (by decide +kernel)
theorem q_86 : (Jvm.Cond.code ({ cls := "MatchingGraph$History", name := "<init>", desc := "()V" } : Jvm.MethodName) prog_3_method_1_code (1 : Nat) (Option.none : Option Jvm.ClassFile.FieldType)) ∈ WS := ws_tin 86 (by decide +kernel) (by decide +kernel)
theorem q_87 : (Jvm.Cond.methodLink "MatchingGraph$History" (3 : Nat) ({ cls := "java/lang/Object", name := "<init>", desc := "()V" } : Jvm.MethodName)) ∈ WS := ws_tin 87 (by decide +kernel) (by decide +kernel)
theorem q_88 : (Jvm.Cond.classLink "MatchingGraph$History" (9 : Nat) "[[I") ∈ WS := ws_tin 88 (by decide +kernel) (by decide +kernel)
theorem q_90 : (Jvm.Cond.fieldLink "MatchingGraph$History" (11 : Nat) "MatchingGraph$History" "nears" "[[I") ∈ WS := ws_tin 90 (by decide +kernel) (by decide +kernel)
theorem q_91 : (Jvm.Cond.fieldLink "MatchingGraph$History" (16 : Nat) "MatchingGraph$History" "mates" "[[I") ∈ WS := ws_tin 91 (by decide +kernel) (by decide +kernel)
theorem q_92 : (Jvm.Cond.fieldLink "MatchingGraph$History" (19 : Nat) "MatchingGraph$History" "latest" "I") ∈ WS := ws_tin 92 (by decide +kernel) (by decide +kernel)
theorem q_93 : (Jvm.Cond.fieldLink "MatchingGraph$History" (23 : Nat) "MatchingGraph$History" "kept" "I") ∈ WS := ws_tin 93 (by decide +kernel) (by decide +kernel)
theorem q_95 : (Jvm.Cond.laysFinal "MatchingGraph$History" "MatchingGraph$History" "nears" "[[I") ∈ WS := ws_tin 95 (by decide +kernel) (by decide +kernel)
theorem q_97 : (Jvm.Cond.laysFinal "MatchingGraph$History" "MatchingGraph$History" "mates" "[[I") ∈ WS := ws_tin 97 (by decide +kernel) (by decide +kernel)
theorem q_99 : (Jvm.Cond.lays "MatchingGraph$History" "MatchingGraph$History" "latest" "I") ∈ WS := ws_tin 99 (by decide +kernel) (by decide +kernel)
theorem q_101 : (Jvm.Cond.lays "MatchingGraph$History" "MatchingGraph$History" "kept" "I") ∈ WS := ws_tin 101 (by decide +kernel) (by decide +kernel)
theorem q_104 : (Jvm.Cond.classLink "MatchingGraph" (37 : Nat) "MatchingGraph$Paths") ∈ WS := ws_tin 104 (by decide +kernel) (by decide +kernel)
theorem q_105 : (Jvm.Cond.instantiable "MatchingGraph$Paths" (7 : Nat)) ∈ WS := ws_tin 105 (by decide +kernel) (by decide +kernel)
theorem q_106 : (Jvm.Cond.methodLink "MatchingGraph" (39 : Nat) ({ cls := "MatchingGraph$Paths", name := "<init>", desc := "(LMatchingGraph$Graph;LMatchingGraph$Matching;)V" } : Jvm.MethodName)) ∈ WS := ws_tin 106 (by decide +kernel) (by decide +kernel)
theorem q_107 : (Jvm.Cond.instanceMethod ({ cls := "MatchingGraph$Paths", name := "<init>", desc := "(LMatchingGraph$Graph;LMatchingGraph$Matching;)V" } : Jvm.MethodName)) ∈ WS := ws_tin 107 (by decide +kernel) (by decide +kernel)
theorem q_108 : (Jvm.Cond.code ({ cls := "MatchingGraph$Paths", name := "<init>", desc := "(LMatchingGraph$Graph;LMatchingGraph$Matching;)V" } : Jvm.MethodName) prog_7_method_1_code (3 : Nat) (Option.none : Option Jvm.ClassFile.FieldType)) ∈ WS := ws_tin 108 (by decide +kernel) (by decide +kernel)
theorem q_109 : (Jvm.Cond.methodLink "MatchingGraph$Paths" (3 : Nat) ({ cls := "java/lang/Object", name := "<init>", desc := "()V" } : Jvm.MethodName)) ∈ WS := ws_tin 109 (by decide +kernel) (by decide +kernel)
theorem q_110 : (Jvm.Cond.fieldLink "MatchingGraph$Paths" (28 : Nat) "MatchingGraph$Paths" "graph" "LMatchingGraph$Graph;") ∈ WS := ws_tin 110 (by decide +kernel) (by decide +kernel)
theorem q_111 : (Jvm.Cond.fieldLink "MatchingGraph$Paths" (32 : Nat) "MatchingGraph$Paths" "matching" "LMatchingGraph$Matching;") ∈ WS := ws_tin 111 (by decide +kernel) (by decide +kernel)
theorem q_112 : (Jvm.Cond.fieldLink "MatchingGraph$Paths" (9 : Nat) "MatchingGraph$Paths" "pairBit" "[I") ∈ WS := ws_tin 112 (by decide +kernel) (by decide +kernel)
theorem q_113 : (Jvm.Cond.fieldLink "MatchingGraph$Paths" (15 : Nat) "MatchingGraph$Paths" "followed" "[I") ∈ WS := ws_tin 113 (by decide +kernel) (by decide +kernel)
theorem q_114 : (Jvm.Cond.fieldLink "MatchingGraph$Paths" (18 : Nat) "MatchingGraph$Paths" "wayNodes" "[I") ∈ WS := ws_tin 114 (by decide +kernel) (by decide +kernel)
theorem q_116 : (Jvm.Cond.fieldLink "MatchingGraph$Paths" (21 : Nat) "MatchingGraph$Paths" "evenEnds" "I") ∈ WS := ws_tin 116 (by decide +kernel) (by decide +kernel)
theorem q_118 : (Jvm.Cond.fieldLink "MatchingGraph$Paths" (25 : Nat) "MatchingGraph$Paths" "oddEnds" "I") ∈ WS := ws_tin 118 (by decide +kernel) (by decide +kernel)
theorem q_120 : (Jvm.Cond.laysFinal "MatchingGraph$Paths" "MatchingGraph$Paths" "graph" "LMatchingGraph$Graph;") ∈ WS := ws_tin 120 (by decide +kernel) (by decide +kernel)
theorem q_122 : (Jvm.Cond.laysFinal "MatchingGraph$Paths" "MatchingGraph$Paths" "matching" "LMatchingGraph$Matching;") ∈ WS := ws_tin 122 (by decide +kernel) (by decide +kernel)
theorem q_124 : (Jvm.Cond.laysFinal "MatchingGraph$Paths" "MatchingGraph$Paths" "pairBit" "[I") ∈ WS := ws_tin 124 (by decide +kernel) (by decide +kernel)
theorem q_126 : (Jvm.Cond.laysFinal "MatchingGraph$Paths" "MatchingGraph$Paths" "followed" "[I") ∈ WS := ws_tin 126 (by decide +kernel) (by decide +kernel)
theorem q_128 : (Jvm.Cond.laysFinal "MatchingGraph$Paths" "MatchingGraph$Paths" "wayNodes" "[I") ∈ WS := ws_tin 128 (by decide +kernel) (by decide +kernel)
theorem q_130 : (Jvm.Cond.lays "MatchingGraph$Paths" "MatchingGraph$Paths" "evenEnds" "I") ∈ WS := ws_tin 130 (by decide +kernel) (by decide +kernel)
theorem q_132 : (Jvm.Cond.lays "MatchingGraph$Paths" "MatchingGraph$Paths" "oddEnds" "I") ∈ WS := ws_tin 132 (by decide +kernel) (by decide +kernel)
theorem q_135 : (Jvm.Cond.classLink "MatchingGraph" (46 : Nat) "MatchingGraph$Maxima") ∈ WS := ws_tin 135 (by decide +kernel) (by decide +kernel)
theorem q_136 : (Jvm.Cond.instantiable "MatchingGraph$Maxima" (6 : Nat)) ∈ WS := ws_tin 136 (by decide +kernel) (by decide +kernel)
theorem q_137 : (Jvm.Cond.methodLink "MatchingGraph" (48 : Nat) ({ cls := "MatchingGraph$Maxima", name := "<init>", desc := "(LMatchingGraph$Graph;)V" } : Jvm.MethodName)) ∈ WS := ws_tin 137 (by decide +kernel) (by decide +kernel)
theorem q_138 : (Jvm.Cond.instanceMethod ({ cls := "MatchingGraph$Maxima", name := "<init>", desc := "(LMatchingGraph$Graph;)V" } : Jvm.MethodName)) ∈ WS := ws_tin 138 (by decide +kernel) (by decide +kernel)
theorem q_139 : (Jvm.Cond.code ({ cls := "MatchingGraph$Maxima", name := "<init>", desc := "(LMatchingGraph$Graph;)V" } : Jvm.MethodName) prog_6_method_1_code (2 : Nat) (Option.none : Option Jvm.ClassFile.FieldType)) ∈ WS := ws_tin 139 (by decide +kernel) (by decide +kernel)
theorem q_140 : (Jvm.Cond.methodLink "MatchingGraph$Maxima" (3 : Nat) ({ cls := "java/lang/Object", name := "<init>", desc := "()V" } : Jvm.MethodName)) ∈ WS := ws_tin 140 (by decide +kernel) (by decide +kernel)
theorem q_141 : (Jvm.Cond.classLink "MatchingGraph$Maxima" (18 : Nat) "MatchingGraph$Matching") ∈ WS := ws_tin 141 (by decide +kernel) (by decide +kernel)
theorem q_142 : (Jvm.Cond.methodLink "MatchingGraph$Maxima" (20 : Nat) ({ cls := "MatchingGraph$Matching", name := "<init>", desc := "()V" } : Jvm.MethodName)) ∈ WS := ws_tin 142 (by decide +kernel) (by decide +kernel)
theorem q_143 : (Jvm.Cond.fieldLink "MatchingGraph$Maxima" (33 : Nat) "MatchingGraph$Maxima" "graph" "LMatchingGraph$Graph;") ∈ WS := ws_tin 143 (by decide +kernel) (by decide +kernel)
theorem q_144 : (Jvm.Cond.fieldLink "MatchingGraph$Maxima" (9 : Nat) "MatchingGraph$Maxima" "size" "[I") ∈ WS := ws_tin 144 (by decide +kernel) (by decide +kernel)
theorem q_145 : (Jvm.Cond.fieldLink "MatchingGraph$Maxima" (15 : Nat) "MatchingGraph$Maxima" "ways" "[I") ∈ WS := ws_tin 145 (by decide +kernel) (by decide +kernel)
theorem q_146 : (Jvm.Cond.fieldLink "MatchingGraph$Maxima" (21 : Nat) "MatchingGraph$Maxima" "first" "LMatchingGraph$Matching;") ∈ WS := ws_tin 146 (by decide +kernel) (by decide +kernel)
theorem q_147 : (Jvm.Cond.fieldLink "MatchingGraph$Maxima" (25 : Nat) "MatchingGraph$Maxima" "firstIsKnown" "Z") ∈ WS := ws_tin 147 (by decide +kernel) (by decide +kernel)
theorem q_148 : (Jvm.Cond.fieldLink "MatchingGraph$Maxima" (29 : Nat) "MatchingGraph$Maxima" "changesSeen" "I") ∈ WS := ws_tin 148 (by decide +kernel) (by decide +kernel)
theorem q_149 : (Jvm.Cond.laysFinal "MatchingGraph$Maxima" "MatchingGraph$Maxima" "graph" "LMatchingGraph$Graph;") ∈ WS := ws_tin 149 (by decide +kernel) (by decide +kernel)
theorem q_151 : (Jvm.Cond.laysFinal "MatchingGraph$Maxima" "MatchingGraph$Maxima" "size" "[I") ∈ WS := ws_tin 151 (by decide +kernel) (by decide +kernel)
theorem q_153 : (Jvm.Cond.laysFinal "MatchingGraph$Maxima" "MatchingGraph$Maxima" "ways" "[I") ∈ WS := ws_tin 153 (by decide +kernel) (by decide +kernel)
theorem q_155 : (Jvm.Cond.laysFinal "MatchingGraph$Maxima" "MatchingGraph$Maxima" "first" "LMatchingGraph$Matching;") ∈ WS := ws_tin 155 (by decide +kernel) (by decide +kernel)
theorem q_157 : (Jvm.Cond.lays "MatchingGraph$Maxima" "MatchingGraph$Maxima" "firstIsKnown" "Z") ∈ WS := ws_tin 157 (by decide +kernel) (by decide +kernel)
theorem q_159 : (Jvm.Cond.lays "MatchingGraph$Maxima" "MatchingGraph$Maxima" "changesSeen" "I") ∈ WS := ws_tin 159 (by decide +kernel) (by decide +kernel)
theorem q_162 : (Jvm.Cond.fieldLink "MatchingGraph" (12 : Nat) "MatchingGraph" "graph" "LMatchingGraph$Graph;") ∈ WS := ws_tin 162 (by decide +kernel) (by decide +kernel)
theorem q_163 : (Jvm.Cond.fieldLink "MatchingGraph" (19 : Nat) "MatchingGraph" "matching" "LMatchingGraph$Matching;") ∈ WS := ws_tin 163 (by decide +kernel) (by decide +kernel)
theorem q_164 : (Jvm.Cond.fieldLink "MatchingGraph" (26 : Nat) "MatchingGraph" "input" "LMatchingGraph$Input;") ∈ WS := ws_tin 164 (by decide +kernel) (by decide +kernel)
theorem q_165 : (Jvm.Cond.fieldLink "MatchingGraph" (33 : Nat) "MatchingGraph" "history" "LMatchingGraph$History;") ∈ WS := ws_tin 165 (by decide +kernel) (by decide +kernel)
theorem q_166 : (Jvm.Cond.fieldLink "MatchingGraph" (42 : Nat) "MatchingGraph" "paths" "LMatchingGraph$Paths;") ∈ WS := ws_tin 166 (by decide +kernel) (by decide +kernel)
theorem q_167 : (Jvm.Cond.fieldLink "MatchingGraph" (51 : Nat) "MatchingGraph" "maxima" "LMatchingGraph$Maxima;") ∈ WS := ws_tin 167 (by decide +kernel) (by decide +kernel)
theorem q_168 : (Jvm.Cond.fieldLink "MatchingGraph" (55 : Nat) "MatchingGraph" "differing" "LMatchingGraph$Graph;") ∈ WS := ws_tin 168 (by decide +kernel) (by decide +kernel)
theorem q_169 : (Jvm.Cond.laysFinal "MatchingGraph" "MatchingGraph" "graph" "LMatchingGraph$Graph;") ∈ WS := ws_tin 169 (by decide +kernel) (by decide +kernel)
theorem q_171 : (Jvm.Cond.laysFinal "MatchingGraph" "MatchingGraph" "matching" "LMatchingGraph$Matching;") ∈ WS := ws_tin 171 (by decide +kernel) (by decide +kernel)
theorem q_173 : (Jvm.Cond.laysFinal "MatchingGraph" "MatchingGraph" "input" "LMatchingGraph$Input;") ∈ WS := ws_tin 173 (by decide +kernel) (by decide +kernel)
theorem q_175 : (Jvm.Cond.laysFinal "MatchingGraph" "MatchingGraph" "history" "LMatchingGraph$History;") ∈ WS := ws_tin 175 (by decide +kernel) (by decide +kernel)
theorem q_177 : (Jvm.Cond.laysFinal "MatchingGraph" "MatchingGraph" "paths" "LMatchingGraph$Paths;") ∈ WS := ws_tin 177 (by decide +kernel) (by decide +kernel)
theorem q_179 : (Jvm.Cond.laysFinal "MatchingGraph" "MatchingGraph" "maxima" "LMatchingGraph$Maxima;") ∈ WS := ws_tin 179 (by decide +kernel) (by decide +kernel)
theorem q_181 : (Jvm.Cond.laysFinal "MatchingGraph" "MatchingGraph" "differing" "LMatchingGraph$Graph;") ∈ WS := ws_tin 181 (by decide +kernel) (by decide +kernel)
theorem q_184 : (Jvm.Cond.methodLink "MatchingGraphLaw" (95 : Nat) ({ cls := "MatchingGraph", name := "clearInput", desc := "()I" } : Jvm.MethodName)) ∈ WS := ws_tin 184 (by decide +kernel) (by decide +kernel)
theorem q_185 : (Jvm.Cond.instanceMethod ({ cls := "MatchingGraph", name := "clearInput", desc := "()I" } : Jvm.MethodName)) ∈ WS := ws_tin 185 (by decide +kernel) (by decide +kernel)
theorem q_186 : (Jvm.Cond.selects "MatchingGraph" ({ cls := "MatchingGraph", name := "clearInput", desc := "()I" } : Jvm.MethodName) ({ cls := "MatchingGraph", name := "clearInput", desc := "()I" } : Jvm.MethodName)) ∈ WS := ws_tin 186 (by decide +kernel) (by decide +kernel)
theorem q_187 : (Jvm.Cond.code ({ cls := "MatchingGraph", name := "clearInput", desc := "()I" } : Jvm.MethodName) prog_1_method_5_code (2 : Nat) (Option.some Jvm.ClassFile.FieldType.int)) ∈ WS := ws_tin 187 (by decide +kernel) (by decide +kernel)
theorem q_188 : (Jvm.Cond.methodLink "MatchingGraphLaw" (99 : Nat) ({ cls := "MatchingGraph", name := "firstError", desc := "()I" } : Jvm.MethodName)) ∈ WS := ws_tin 188 (by decide +kernel) (by decide +kernel)
theorem q_189 : (Jvm.Cond.instanceMethod ({ cls := "MatchingGraph", name := "firstError", desc := "()I" } : Jvm.MethodName)) ∈ WS := ws_tin 189 (by decide +kernel) (by decide +kernel)
theorem q_190 : (Jvm.Cond.selects "MatchingGraph" ({ cls := "MatchingGraph", name := "firstError", desc := "()I" } : Jvm.MethodName) ({ cls := "MatchingGraph", name := "firstError", desc := "()I" } : Jvm.MethodName)) ∈ WS := ws_tin 190 (by decide +kernel) (by decide +kernel)
theorem q_191 : (Jvm.Cond.code ({ cls := "MatchingGraph", name := "firstError", desc := "()I" } : Jvm.MethodName) prog_1_method_6_code (1 : Nat) (Option.some Jvm.ClassFile.FieldType.int)) ∈ WS := ws_tin 191 (by decide +kernel) (by decide +kernel)
theorem q_192 : (Jvm.Cond.methodLink "MatchingGraph" (113 : Nat) ({ cls := "MatchingGraph$Input", name := "errorPlace", desc := "(I)I" } : Jvm.MethodName)) ∈ WS := ws_tin 192 (by decide +kernel) (by decide +kernel)
theorem q_193 : (Jvm.Cond.instanceMethod ({ cls := "MatchingGraph$Input", name := "errorPlace", desc := "(I)I" } : Jvm.MethodName)) ∈ WS := ws_tin 193 (by decide +kernel) (by decide +kernel)
theorem q_194 : (Jvm.Cond.selects "MatchingGraph$Input" ({ cls := "MatchingGraph$Input", name := "errorPlace", desc := "(I)I" } : Jvm.MethodName) ({ cls := "MatchingGraph$Input", name := "errorPlace", desc := "(I)I" } : Jvm.MethodName)) ∈ WS := ws_tin 194 (by decide +kernel) (by decide +kernel)
theorem q_195 : (Jvm.Cond.code ({ cls := "MatchingGraph$Input", name := "errorPlace", desc := "(I)I" } : Jvm.MethodName) prog_4_method_3_code (4 : Nat) (Option.some Jvm.ClassFile.FieldType.int)) ∈ WS := ws_tin 195 (by decide +kernel) (by decide +kernel)
theorem q_196 : (Jvm.Cond.methodLink "MatchingGraph$Input" (19 : Nat) ({ cls := "MatchingGraph$Input", name := "stateAt", desc := "(III)I" } : Jvm.MethodName)) ∈ WS := ws_tin 196 (by decide +kernel) (by decide +kernel)
theorem q_198 : (Jvm.Cond.instanceMethod ({ cls := "MatchingGraph$Input", name := "stateAt", desc := "(III)I" } : Jvm.MethodName)) ∈ WS := ws_tin 198 (by decide +kernel) (by decide +kernel)
theorem q_199 : (Jvm.Cond.code ({ cls := "MatchingGraph$Input", name := "stateAt", desc := "(III)I" } : Jvm.MethodName) prog_4_method_5_code (6 : Nat) (Option.some Jvm.ClassFile.FieldType.int)) ∈ WS := ws_tin 199 (by decide +kernel) (by decide +kernel)
theorem q_200 : (Jvm.Cond.methodLink "MatchingGraph$Input" (23 : Nat) ({ cls := "MatchingGraph$Input", name := "nodeAt", desc := "(I)I" } : Jvm.MethodName)) ∈ WS := ws_tin 200 (by decide +kernel) (by decide +kernel)
theorem q_201 : (Jvm.Cond.instanceMethod ({ cls := "MatchingGraph$Input", name := "nodeAt", desc := "(I)I" } : Jvm.MethodName)) ∈ WS := ws_tin 201 (by decide +kernel) (by decide +kernel)
theorem q_202 : (Jvm.Cond.selects "MatchingGraph$Input" ({ cls := "MatchingGraph$Input", name := "nodeAt", desc := "(I)I" } : Jvm.MethodName) ({ cls := "MatchingGraph$Input", name := "nodeAt", desc := "(I)I" } : Jvm.MethodName)) ∈ WS := ws_tin 202 (by decide +kernel) (by decide +kernel)
theorem q_203 : (Jvm.Cond.code ({ cls := "MatchingGraph$Input", name := "nodeAt", desc := "(I)I" } : Jvm.MethodName) prog_4_method_6_code (2 : Nat) (Option.some Jvm.ClassFile.FieldType.int)) ∈ WS := ws_tin 203 (by decide +kernel) (by decide +kernel)
theorem q_204 : (Jvm.Cond.methodLink "MatchingGraphLaw" (117 : Nat) ({ cls := "MatchingGraph", name := "maximize", desc := "()I" } : Jvm.MethodName)) ∈ WS := ws_tin 204 (by decide +kernel) (by decide +kernel)
theorem q_205 : (Jvm.Cond.instanceMethod ({ cls := "MatchingGraph", name := "maximize", desc := "()I" } : Jvm.MethodName)) ∈ WS := ws_tin 205 (by decide +kernel) (by decide +kernel)
theorem q_206 : (Jvm.Cond.selects "MatchingGraph" ({ cls := "MatchingGraph", name := "maximize", desc := "()I" } : Jvm.MethodName) ({ cls := "MatchingGraph", name := "maximize", desc := "()I" } : Jvm.MethodName)) ∈ WS := ws_tin 206 (by decide +kernel) (by decide +kernel)
theorem q_207 : (Jvm.Cond.code ({ cls := "MatchingGraph", name := "maximize", desc := "()I" } : Jvm.MethodName) prog_1_method_12_code (2 : Nat) (Option.some Jvm.ClassFile.FieldType.int)) ∈ WS := ws_tin 207 (by decide +kernel) (by decide +kernel)
theorem q_208 : (Jvm.Cond.methodLink "MatchingGraph" (83 : Nat) ({ cls := "MatchingGraph$History", name := "save", desc := "(LMatchingGraph$Graph;LMatchingGraph$Matching;)V" } : Jvm.MethodName)) ∈ WS := ws_tin 208 (by decide +kernel) (by decide +kernel)
theorem q_209 : (Jvm.Cond.instanceMethod ({ cls := "MatchingGraph$History", name := "save", desc := "(LMatchingGraph$Graph;LMatchingGraph$Matching;)V" } : Jvm.MethodName)) ∈ WS := ws_tin 209 (by decide +kernel) (by decide +kernel)
theorem q_210 : (Jvm.Cond.selects "MatchingGraph$History" ({ cls := "MatchingGraph$History", name := "save", desc := "(LMatchingGraph$Graph;LMatchingGraph$Matching;)V" } : Jvm.MethodName) ({ cls := "MatchingGraph$History", name := "save", desc := "(LMatchingGraph$Graph;LMatchingGraph$Matching;)V" } : Jvm.MethodName)) ∈ WS := ws_tin 210 (by decide +kernel) (by decide +kernel)
theorem q_211 : (Jvm.Cond.code ({ cls := "MatchingGraph$History", name := "save", desc := "(LMatchingGraph$Graph;LMatchingGraph$Matching;)V" } : Jvm.MethodName) prog_3_method_3_code (3 : Nat) (Option.none : Option Jvm.ClassFile.FieldType)) ∈ WS := ws_tin 211 (by decide +kernel) (by decide +kernel)
theorem q_212 : (Jvm.Cond.methodLink "MatchingGraph$History" (32 : Nat) ({ cls := "java/lang/System", name := "arraycopy", desc := "(Ljava/lang/Object;ILjava/lang/Object;II)V" } : Jvm.MethodName)) ∈ WS := ws_tin 212 (by decide +kernel) (by decide +kernel)
theorem q_213 : (Jvm.Cond.static ({ cls := "java/lang/System", name := "arraycopy", desc := "(Ljava/lang/Object;ILjava/lang/Object;II)V" } : Jvm.MethodName)) ∈ WS := ws_tin 213 (by decide +kernel) (by decide +kernel)
theorem q_214 : (Jvm.Cond.native ({ cls := "java/lang/System", name := "arraycopy", desc := "(Ljava/lang/Object;ILjava/lang/Object;II)V" } : Jvm.MethodName)) ∈ WS := ws_tin 214 (by decide +kernel) (by decide +kernel)
theorem q_215 : (Jvm.Cond.methodLink "MatchingGraph$History" (43 : Nat) ({ cls := "java/lang/Math", name := "min", desc := "(II)I" } : Jvm.MethodName)) ∈ WS := ws_tin 215 (by decide +kernel) (by decide +kernel)
theorem q_216 : (Jvm.Cond.static ({ cls := "java/lang/Math", name := "min", desc := "(II)I" } : Jvm.MethodName)) ∈ WS := ws_tin 216 (by decide +kernel) (by decide +kernel)
theorem q_217 : (Jvm.Cond.code ({ cls := "java/lang/Math", name := "min", desc := "(II)I" } : Jvm.MethodName) prog_15_method_69_code (2 : Nat) (Option.some Jvm.ClassFile.FieldType.int)) ∈ WS := ws_tin 217 (by decide +kernel) (by decide +kernel)
theorem q_218 : (Jvm.Cond.methodLink "MatchingGraph" (157 : Nat) ({ cls := "MatchingGraph", name := "augmentLowest", desc := "()Z" } : Jvm.MethodName)) ∈ WS := ws_tin 218 (by decide +kernel) (by decide +kernel)
theorem q_220 : (Jvm.Cond.instanceMethod ({ cls := "MatchingGraph", name := "augmentLowest", desc := "()Z" } : Jvm.MethodName)) ∈ WS := ws_tin 220 (by decide +kernel) (by decide +kernel)
theorem q_221 : (Jvm.Cond.code ({ cls := "MatchingGraph", name := "augmentLowest", desc := "()Z" } : Jvm.MethodName) prog_1_method_13_code (2 : Nat) (Option.some Jvm.ClassFile.FieldType.boolean)) ∈ WS := ws_tin 221 (by decide +kernel) (by decide +kernel)
theorem q_222 : (Jvm.Cond.methodLink "MatchingGraph" (133 : Nat) ({ cls := "MatchingGraph$Matching", name := "isExposed", desc := "(I)Z" } : Jvm.MethodName)) ∈ WS := ws_tin 222 (by decide +kernel) (by decide +kernel)
theorem q_223 : (Jvm.Cond.instanceMethod ({ cls := "MatchingGraph$Matching", name := "isExposed", desc := "(I)Z" } : Jvm.MethodName)) ∈ WS := ws_tin 223 (by decide +kernel) (by decide +kernel)
theorem q_224 : (Jvm.Cond.selects "MatchingGraph$Matching" ({ cls := "MatchingGraph$Matching", name := "isExposed", desc := "(I)Z" } : Jvm.MethodName) ({ cls := "MatchingGraph$Matching", name := "isExposed", desc := "(I)Z" } : Jvm.MethodName)) ∈ WS := ws_tin 224 (by decide +kernel) (by decide +kernel)
theorem q_225 : (Jvm.Cond.code ({ cls := "MatchingGraph$Matching", name := "isExposed", desc := "(I)Z" } : Jvm.MethodName) prog_5_method_4_code (2 : Nat) (Option.some Jvm.ClassFile.FieldType.boolean)) ∈ WS := ws_tin 225 (by decide +kernel) (by decide +kernel)
theorem q_226 : (Jvm.Cond.methodLink "MatchingGraph" (154 : Nat) ({ cls := "MatchingGraph", name := "augmentFrom", desc := "(I)I" } : Jvm.MethodName)) ∈ WS := ws_tin 226 (by decide +kernel) (by decide +kernel)
theorem q_228 : (Jvm.Cond.instanceMethod ({ cls := "MatchingGraph", name := "augmentFrom", desc := "(I)I" } : Jvm.MethodName)) ∈ WS := ws_tin 228 (by decide +kernel) (by decide +kernel)
theorem q_229 : (Jvm.Cond.code ({ cls := "MatchingGraph", name := "augmentFrom", desc := "(I)I" } : Jvm.MethodName) prog_1_method_14_code (3 : Nat) (Option.some Jvm.ClassFile.FieldType.int)) ∈ WS := ws_tin 229 (by decide +kernel) (by decide +kernel)
theorem q_230 : (Jvm.Cond.methodLink "MatchingGraph" (161 : Nat) ({ cls := "MatchingGraph$Paths", name := "findWay", desc := "(I)I" } : Jvm.MethodName)) ∈ WS := ws_tin 230 (by decide +kernel) (by decide +kernel)
theorem q_231 : (Jvm.Cond.instanceMethod ({ cls := "MatchingGraph$Paths", name := "findWay", desc := "(I)I" } : Jvm.MethodName)) ∈ WS := ws_tin 231 (by decide +kernel) (by decide +kernel)
theorem q_232 : (Jvm.Cond.selects "MatchingGraph$Paths" ({ cls := "MatchingGraph$Paths", name := "findWay", desc := "(I)I" } : Jvm.MethodName) ({ cls := "MatchingGraph$Paths", name := "findWay", desc := "(I)I" } : Jvm.MethodName)) ∈ WS := ws_tin 232 (by decide +kernel) (by decide +kernel)
theorem q_233 : (Jvm.Cond.code ({ cls := "MatchingGraph$Paths", name := "findWay", desc := "(I)I" } : Jvm.MethodName) prog_7_method_5_code (4 : Nat) (Option.some Jvm.ClassFile.FieldType.int)) ∈ WS := ws_tin 233 (by decide +kernel) (by decide +kernel)
theorem q_234 : (Jvm.Cond.methodLink "MatchingGraph$Paths" (46 : Nat) ({ cls := "MatchingGraph$Paths", name := "numberPairs", desc := "()V" } : Jvm.MethodName)) ∈ WS := ws_tin 234 (by decide +kernel) (by decide +kernel)
theorem q_236 : (Jvm.Cond.instanceMethod ({ cls := "MatchingGraph$Paths", name := "numberPairs", desc := "()V" } : Jvm.MethodName)) ∈ WS := ws_tin 236 (by decide +kernel) (by decide +kernel)
theorem q_237 : (Jvm.Cond.code ({ cls := "MatchingGraph$Paths", name := "numberPairs", desc := "()V" } : Jvm.MethodName) prog_7_method_2_code (4 : Nat) (Option.none : Option Jvm.ClassFile.FieldType)) ∈ WS := ws_tin 237 (by decide +kernel) (by decide +kernel)
theorem q_238 : (Jvm.Cond.methodLink "MatchingGraph$Paths" (63 : Nat) ({ cls := "MatchingGraph$Matching", name := "size", desc := "()I" } : Jvm.MethodName)) ∈ WS := ws_tin 238 (by decide +kernel) (by decide +kernel)
theorem q_239 : (Jvm.Cond.instanceMethod ({ cls := "MatchingGraph$Matching", name := "size", desc := "()I" } : Jvm.MethodName)) ∈ WS := ws_tin 239 (by decide +kernel) (by decide +kernel)
theorem q_240 : (Jvm.Cond.selects "MatchingGraph$Matching" ({ cls := "MatchingGraph$Matching", name := "size", desc := "()I" } : Jvm.MethodName) ({ cls := "MatchingGraph$Matching", name := "size", desc := "()I" } : Jvm.MethodName)) ∈ WS := ws_tin 240 (by decide +kernel) (by decide +kernel)
theorem q_241 : (Jvm.Cond.code ({ cls := "MatchingGraph$Matching", name := "size", desc := "()I" } : Jvm.MethodName) prog_5_method_8_code (3 : Nat) (Option.some Jvm.ClassFile.FieldType.int)) ∈ WS := ws_tin 241 (by decide +kernel) (by decide +kernel)
theorem q_242 : (Jvm.Cond.methodLink "MatchingGraph$Paths" (49 : Nat) ({ cls := "java/util/Arrays", name := "fill", desc := "([II)V" } : Jvm.MethodName)) ∈ WS := ws_tin 242 (by decide +kernel) (by decide +kernel)
theorem q_243 : (Jvm.Cond.methodLink "MatchingGraph$Paths" (67 : Nat) ({ cls := "MatchingGraph$Paths", name := "followWay", desc := "(III)Z" } : Jvm.MethodName)) ∈ WS := ws_tin 243 (by decide +kernel) (by decide +kernel)
theorem q_245 : (Jvm.Cond.instanceMethod ({ cls := "MatchingGraph$Paths", name := "followWay", desc := "(III)Z" } : Jvm.MethodName)) ∈ WS := ws_tin 245 (by decide +kernel) (by decide +kernel)
theorem q_246 : (Jvm.Cond.code ({ cls := "MatchingGraph$Paths", name := "followWay", desc := "(III)Z" } : Jvm.MethodName) prog_7_method_6_code (6 : Nat) (Option.some Jvm.ClassFile.FieldType.boolean)) ∈ WS := ws_tin 246 (by decide +kernel) (by decide +kernel)
theorem q_247 : (Jvm.Cond.methodLink "MatchingGraph$Paths" (59 : Nat) ({ cls := "MatchingGraph$Graph", name := "joined", desc := "(II)Z" } : Jvm.MethodName)) ∈ WS := ws_tin 247 (by decide +kernel) (by decide +kernel)
theorem q_248 : (Jvm.Cond.instanceMethod ({ cls := "MatchingGraph$Graph", name := "joined", desc := "(II)Z" } : Jvm.MethodName)) ∈ WS := ws_tin 248 (by decide +kernel) (by decide +kernel)
theorem q_249 : (Jvm.Cond.selects "MatchingGraph$Graph" ({ cls := "MatchingGraph$Graph", name := "joined", desc := "(II)Z" } : Jvm.MethodName) ({ cls := "MatchingGraph$Graph", name := "joined", desc := "(II)Z" } : Jvm.MethodName)) ∈ WS := ws_tin 249 (by decide +kernel) (by decide +kernel)
theorem q_250 : (Jvm.Cond.code ({ cls := "MatchingGraph$Graph", name := "joined", desc := "(II)Z" } : Jvm.MethodName) prog_2_method_5_code (3 : Nat) (Option.some Jvm.ClassFile.FieldType.boolean)) ∈ WS := ws_tin 250 (by decide +kernel) (by decide +kernel)
theorem q_251 : (Jvm.Cond.methodLink "MatchingGraph$Paths" (71 : Nat) ({ cls := "MatchingGraph$Paths", name := "followWayTo", desc := "(IIII)Z" } : Jvm.MethodName)) ∈ WS := ws_tin 251 (by decide +kernel) (by decide +kernel)
theorem q_253 : (Jvm.Cond.instanceMethod ({ cls := "MatchingGraph$Paths", name := "followWayTo", desc := "(IIII)Z" } : Jvm.MethodName)) ∈ WS := ws_tin 253 (by decide +kernel) (by decide +kernel)
theorem q_254 : (Jvm.Cond.code ({ cls := "MatchingGraph$Paths", name := "followWayTo", desc := "(IIII)Z" } : Jvm.MethodName) prog_7_method_7_code (6 : Nat) (Option.some Jvm.ClassFile.FieldType.boolean)) ∈ WS := ws_tin 254 (by decide +kernel) (by decide +kernel)
theorem q_255 : (Jvm.Cond.methodLink "MatchingGraph" (167 : Nat) ({ cls := "MatchingGraph$Matching", name := "swapAlong", desc := "([II)V" } : Jvm.MethodName)) ∈ WS := ws_tin 255 (by decide +kernel) (by decide +kernel)
theorem q_256 : (Jvm.Cond.instanceMethod ({ cls := "MatchingGraph$Matching", name := "swapAlong", desc := "([II)V" } : Jvm.MethodName)) ∈ WS := ws_tin 256 (by decide +kernel) (by decide +kernel)
theorem q_257 : (Jvm.Cond.selects "MatchingGraph$Matching" ({ cls := "MatchingGraph$Matching", name := "swapAlong", desc := "([II)V" } : Jvm.MethodName) ({ cls := "MatchingGraph$Matching", name := "swapAlong", desc := "([II)V" } : Jvm.MethodName)) ∈ WS := ws_tin 257 (by decide +kernel) (by decide +kernel)
theorem q_258 : (Jvm.Cond.code ({ cls := "MatchingGraph$Matching", name := "swapAlong", desc := "([II)V" } : Jvm.MethodName) prog_5_method_9_code (4 : Nat) (Option.none : Option Jvm.ClassFile.FieldType)) ∈ WS := ws_tin 258 (by decide +kernel) (by decide +kernel)
theorem q_259 : (Jvm.Cond.methodLink "MatchingGraph$Matching" (27 : Nat) ({ cls := "MatchingGraph$Matching", name := "join", desc := "(II)V" } : Jvm.MethodName)) ∈ WS := ws_tin 259 (by decide +kernel) (by decide +kernel)
theorem q_260 : (Jvm.Cond.instanceMethod ({ cls := "MatchingGraph$Matching", name := "join", desc := "(II)V" } : Jvm.MethodName)) ∈ WS := ws_tin 260 (by decide +kernel) (by decide +kernel)
theorem q_261 : (Jvm.Cond.selects "MatchingGraph$Matching" ({ cls := "MatchingGraph$Matching", name := "join", desc := "(II)V" } : Jvm.MethodName) ({ cls := "MatchingGraph$Matching", name := "join", desc := "(II)V" } : Jvm.MethodName)) ∈ WS := ws_tin 261 (by decide +kernel) (by decide +kernel)
theorem q_262 : (Jvm.Cond.code ({ cls := "MatchingGraph$Matching", name := "join", desc := "(II)V" } : Jvm.MethodName) prog_5_method_6_code (3 : Nat) (Option.none : Option Jvm.ClassFile.FieldType)) ∈ WS := ws_tin 262 (by decide +kernel) (by decide +kernel)
theorem q_263 : (Jvm.Cond.methodLink "MatchingGraphLaw" (121 : Nat) ({ cls := "MatchingGraph", name := "takeFirst", desc := "()I" } : Jvm.MethodName)) ∈ WS := ws_tin 263 (by decide +kernel) (by decide +kernel)
theorem q_264 : (Jvm.Cond.instanceMethod ({ cls := "MatchingGraph", name := "takeFirst", desc := "()I" } : Jvm.MethodName)) ∈ WS := ws_tin 264 (by decide +kernel) (by decide +kernel)
theorem q_265 : (Jvm.Cond.selects "MatchingGraph" ({ cls := "MatchingGraph", name := "takeFirst", desc := "()I" } : Jvm.MethodName) ({ cls := "MatchingGraph", name := "takeFirst", desc := "()I" } : Jvm.MethodName)) ∈ WS := ws_tin 265 (by decide +kernel) (by decide +kernel)
theorem q_266 : (Jvm.Cond.code ({ cls := "MatchingGraph", name := "takeFirst", desc := "()I" } : Jvm.MethodName) prog_1_method_15_code (5 : Nat) (Option.some Jvm.ClassFile.FieldType.int)) ∈ WS := ws_tin 266 (by decide +kernel) (by decide +kernel)
theorem q_267 : (Jvm.Cond.methodLink "MatchingGraph" (171 : Nat) ({ cls := "MatchingGraph$Maxima", name := "first", desc := "()LMatchingGraph$Matching;" } : Jvm.MethodName)) ∈ WS := ws_tin 267 (by decide +kernel) (by decide +kernel)
theorem q_268 : (Jvm.Cond.instanceMethod ({ cls := "MatchingGraph$Maxima", name := "first", desc := "()LMatchingGraph$Matching;" } : Jvm.MethodName)) ∈ WS := ws_tin 268 (by decide +kernel) (by decide +kernel)
theorem q_269 : (Jvm.Cond.selects "MatchingGraph$Maxima" ({ cls := "MatchingGraph$Maxima", name := "first", desc := "()LMatchingGraph$Matching;" } : Jvm.MethodName) ({ cls := "MatchingGraph$Maxima", name := "first", desc := "()LMatchingGraph$Matching;" } : Jvm.MethodName)) ∈ WS := ws_tin 269 (by decide +kernel) (by decide +kernel)
theorem q_270 : (Jvm.Cond.code ({ cls := "MatchingGraph$Maxima", name := "first", desc := "()LMatchingGraph$Matching;" } : Jvm.MethodName) prog_6_method_12_code (1 : Nat) (Option.some (Jvm.ClassFile.FieldType.object "MatchingGraph$Matching"))) ∈ WS := ws_tin 270 (by decide +kernel) (by decide +kernel)
theorem q_271 : (Jvm.Cond.methodLink "MatchingGraph$Maxima" (62 : Nat) ({ cls := "MatchingGraph$Maxima", name := "learn", desc := "()V" } : Jvm.MethodName)) ∈ WS := ws_tin 271 (by decide +kernel) (by decide +kernel)
theorem q_273 : (Jvm.Cond.instanceMethod ({ cls := "MatchingGraph$Maxima", name := "learn", desc := "()V" } : Jvm.MethodName)) ∈ WS := ws_tin 273 (by decide +kernel) (by decide +kernel)
theorem q_274 : (Jvm.Cond.code ({ cls := "MatchingGraph$Maxima", name := "learn", desc := "()V" } : Jvm.MethodName) prog_6_method_2_code (3 : Nat) (Option.none : Option Jvm.ClassFile.FieldType)) ∈ WS := ws_tin 274 (by decide +kernel) (by decide +kernel)
theorem q_275 : (Jvm.Cond.methodLink "MatchingGraph$Maxima" (42 : Nat) ({ cls := "java/util/Arrays", name := "fill", desc := "([II)V" } : Jvm.MethodName)) ∈ WS := ws_tin 275 (by decide +kernel) (by decide +kernel)
theorem q_276 : (Jvm.Cond.methodLink "MatchingGraph$Maxima" (48 : Nat) ({ cls := "MatchingGraph$Graph", name := "all", desc := "()I" } : Jvm.MethodName)) ∈ WS := ws_tin 276 (by decide +kernel) (by decide +kernel)
theorem q_277 : (Jvm.Cond.instanceMethod ({ cls := "MatchingGraph$Graph", name := "all", desc := "()I" } : Jvm.MethodName)) ∈ WS := ws_tin 277 (by decide +kernel) (by decide +kernel)
theorem q_278 : (Jvm.Cond.selects "MatchingGraph$Graph" ({ cls := "MatchingGraph$Graph", name := "all", desc := "()I" } : Jvm.MethodName) ({ cls := "MatchingGraph$Graph", name := "all", desc := "()I" } : Jvm.MethodName)) ∈ WS := ws_tin 278 (by decide +kernel) (by decide +kernel)
theorem q_279 : (Jvm.Cond.code ({ cls := "MatchingGraph$Graph", name := "all", desc := "()I" } : Jvm.MethodName) prog_2_method_4_code (1 : Nat) (Option.some Jvm.ClassFile.FieldType.int)) ∈ WS := ws_tin 279 (by decide +kernel) (by decide +kernel)
theorem q_280 : (Jvm.Cond.methodLink "MatchingGraph$Maxima" (52 : Nat) ({ cls := "MatchingGraph$Maxima", name := "findOut", desc := "(II)V" } : Jvm.MethodName)) ∈ WS := ws_tin 280 (by decide +kernel) (by decide +kernel)
theorem q_282 : (Jvm.Cond.instanceMethod ({ cls := "MatchingGraph$Maxima", name := "findOut", desc := "(II)V" } : Jvm.MethodName)) ∈ WS := ws_tin 282 (by decide +kernel) (by decide +kernel)
theorem q_283 : (Jvm.Cond.code ({ cls := "MatchingGraph$Maxima", name := "findOut", desc := "(II)V" } : Jvm.MethodName) prog_6_method_3_code (10 : Nat) (Option.none : Option Jvm.ClassFile.FieldType)) ∈ WS := ws_tin 283 (by decide +kernel) (by decide +kernel)
theorem q_284 : (Jvm.Cond.methodLink "MatchingGraph$Maxima" (73 : Nat) ({ cls := "MatchingGraph$Maxima", name := "findFirst", desc := "()V" } : Jvm.MethodName)) ∈ WS := ws_tin 284 (by decide +kernel) (by decide +kernel)
theorem q_286 : (Jvm.Cond.instanceMethod ({ cls := "MatchingGraph$Maxima", name := "findFirst", desc := "()V" } : Jvm.MethodName)) ∈ WS := ws_tin 286 (by decide +kernel) (by decide +kernel)
theorem q_287 : (Jvm.Cond.code ({ cls := "MatchingGraph$Maxima", name := "findFirst", desc := "()V" } : Jvm.MethodName) prog_6_method_13_code (4 : Nat) (Option.none : Option Jvm.ClassFile.FieldType)) ∈ WS := ws_tin 287 (by decide +kernel) (by decide +kernel)
theorem q_288 : (Jvm.Cond.methodLink "MatchingGraph$Maxima" (76 : Nat) ({ cls := "MatchingGraph$Matching", name := "clear", desc := "()V" } : Jvm.MethodName)) ∈ WS := ws_tin 288 (by decide +kernel) (by decide +kernel)
theorem q_289 : (Jvm.Cond.instanceMethod ({ cls := "MatchingGraph$Matching", name := "clear", desc := "()V" } : Jvm.MethodName)) ∈ WS := ws_tin 289 (by decide +kernel) (by decide +kernel)
theorem q_290 : (Jvm.Cond.selects "MatchingGraph$Matching" ({ cls := "MatchingGraph$Matching", name := "clear", desc := "()V" } : Jvm.MethodName) ({ cls := "MatchingGraph$Matching", name := "clear", desc := "()V" } : Jvm.MethodName)) ∈ WS := ws_tin 290 (by decide +kernel) (by decide +kernel)
theorem q_291 : (Jvm.Cond.code ({ cls := "MatchingGraph$Matching", name := "clear", desc := "()V" } : Jvm.MethodName) prog_5_method_2_code (1 : Nat) (Option.none : Option Jvm.ClassFile.FieldType)) ∈ WS := ws_tin 291 (by decide +kernel) (by decide +kernel)
theorem q_292 : (Jvm.Cond.methodLink "MatchingGraph$Maxima" (79 : Nat) ({ cls := "MatchingGraph$Maxima", name := "leastMate", desc := "(II)I" } : Jvm.MethodName)) ∈ WS := ws_tin 292 (by decide +kernel) (by decide +kernel)
theorem q_294 : (Jvm.Cond.instanceMethod ({ cls := "MatchingGraph$Maxima", name := "leastMate", desc := "(II)I" } : Jvm.MethodName)) ∈ WS := ws_tin 294 (by decide +kernel) (by decide +kernel)
theorem q_295 : (Jvm.Cond.code ({ cls := "MatchingGraph$Maxima", name := "leastMate", desc := "(II)I" } : Jvm.MethodName) prog_6_method_14_code (6 : Nat) (Option.some Jvm.ClassFile.FieldType.int)) ∈ WS := ws_tin 295 (by decide +kernel) (by decide +kernel)
theorem q_296 : (Jvm.Cond.methodLink "MatchingGraph$Maxima" (82 : Nat) ({ cls := "MatchingGraph$Matching", name := "join", desc := "(II)V" } : Jvm.MethodName)) ∈ WS := ws_tin 296 (by decide +kernel) (by decide +kernel)
theorem q_297 : (Jvm.Cond.methodLink "MatchingGraph" (94 : Nat) ({ cls := "MatchingGraph$Matching", name := "has", desc := "(II)Z" } : Jvm.MethodName)) ∈ WS := ws_tin 297 (by decide +kernel) (by decide +kernel)
theorem q_298 : (Jvm.Cond.instanceMethod ({ cls := "MatchingGraph$Matching", name := "has", desc := "(II)Z" } : Jvm.MethodName)) ∈ WS := ws_tin 298 (by decide +kernel) (by decide +kernel)
theorem q_299 : (Jvm.Cond.selects "MatchingGraph$Matching" ({ cls := "MatchingGraph$Matching", name := "has", desc := "(II)Z" } : Jvm.MethodName) ({ cls := "MatchingGraph$Matching", name := "has", desc := "(II)Z" } : Jvm.MethodName)) ∈ WS := ws_tin 299 (by decide +kernel) (by decide +kernel)
theorem q_300 : (Jvm.Cond.code ({ cls := "MatchingGraph$Matching", name := "has", desc := "(II)Z" } : Jvm.MethodName) prog_5_method_5_code (3 : Nat) (Option.some Jvm.ClassFile.FieldType.boolean)) ∈ WS := ws_tin 300 (by decide +kernel) (by decide +kernel)
theorem q_301 : (Jvm.Cond.methodLink "MatchingGraph" (175 : Nat) ({ cls := "MatchingGraph$Matching", name := "copyFrom", desc := "([I)V" } : Jvm.MethodName)) ∈ WS := ws_tin 301 (by decide +kernel) (by decide +kernel)
theorem q_302 : (Jvm.Cond.instanceMethod ({ cls := "MatchingGraph$Matching", name := "copyFrom", desc := "([I)V" } : Jvm.MethodName)) ∈ WS := ws_tin 302 (by decide +kernel) (by decide +kernel)
theorem q_303 : (Jvm.Cond.selects "MatchingGraph$Matching" ({ cls := "MatchingGraph$Matching", name := "copyFrom", desc := "([I)V" } : Jvm.MethodName) ({ cls := "MatchingGraph$Matching", name := "copyFrom", desc := "([I)V" } : Jvm.MethodName)) ∈ WS := ws_tin 303 (by decide +kernel) (by decide +kernel)
theorem q_304 : (Jvm.Cond.code ({ cls := "MatchingGraph$Matching", name := "copyFrom", desc := "([I)V" } : Jvm.MethodName) prog_5_method_3_code (2 : Nat) (Option.none : Option Jvm.ClassFile.FieldType)) ∈ WS := ws_tin 304 (by decide +kernel) (by decide +kernel)
theorem q_305 : (Jvm.Cond.methodLink "MatchingGraph$Matching" (21 : Nat) ({ cls := "java/lang/System", name := "arraycopy", desc := "(Ljava/lang/Object;ILjava/lang/Object;II)V" } : Jvm.MethodName)) ∈ WS := ws_tin 305 (by decide +kernel) (by decide +kernel)
theorem q_306 : (Jvm.Cond.methodLink "MatchingGraphLaw" (138 : Nat) ({ cls := "MatchingGraph", name := "oddCycle", desc := "()I" } : Jvm.MethodName)) ∈ WS := ws_tin 306 (by decide +kernel) (by decide +kernel)
theorem q_307 : (Jvm.Cond.instanceMethod ({ cls := "MatchingGraph", name := "oddCycle", desc := "()I" } : Jvm.MethodName)) ∈ WS := ws_tin 307 (by decide +kernel) (by decide +kernel)
theorem q_308 : (Jvm.Cond.selects "MatchingGraph" ({ cls := "MatchingGraph", name := "oddCycle", desc := "()I" } : Jvm.MethodName) ({ cls := "MatchingGraph", name := "oddCycle", desc := "()I" } : Jvm.MethodName)) ∈ WS := ws_tin 308 (by decide +kernel) (by decide +kernel)
theorem q_309 : (Jvm.Cond.code ({ cls := "MatchingGraph", name := "oddCycle", desc := "()I" } : Jvm.MethodName) prog_1_method_20_code (4 : Nat) (Option.some Jvm.ClassFile.FieldType.int)) ∈ WS := ws_tin 309 (by decide +kernel) (by decide +kernel)
theorem q_310 : (Jvm.Cond.methodLink "MatchingGraph" (196 : Nat) ({ cls := "MatchingGraph$Graph", name := "shortestOddWalk", desc := "(I)I" } : Jvm.MethodName)) ∈ WS := ws_tin 310 (by decide +kernel) (by decide +kernel)
theorem q_311 : (Jvm.Cond.instanceMethod ({ cls := "MatchingGraph$Graph", name := "shortestOddWalk", desc := "(I)I" } : Jvm.MethodName)) ∈ WS := ws_tin 311 (by decide +kernel) (by decide +kernel)
theorem q_312 : (Jvm.Cond.selects "MatchingGraph$Graph" ({ cls := "MatchingGraph$Graph", name := "shortestOddWalk", desc := "(I)I" } : Jvm.MethodName) ({ cls := "MatchingGraph$Graph", name := "shortestOddWalk", desc := "(I)I" } : Jvm.MethodName)) ∈ WS := ws_tin 312 (by decide +kernel) (by decide +kernel)
theorem q_313 : (Jvm.Cond.code ({ cls := "MatchingGraph$Graph", name := "shortestOddWalk", desc := "(I)I" } : Jvm.MethodName) prog_2_method_10_code (4 : Nat) (Option.some Jvm.ClassFile.FieldType.int)) ∈ WS := ws_tin 313 (by decide +kernel) (by decide +kernel)
theorem q_314 : (Jvm.Cond.methodLink "MatchingGraph$Graph" (51 : Nat) ({ cls := "MatchingGraph$Graph", name := "besides", desc := "(I)I" } : Jvm.MethodName)) ∈ WS := ws_tin 314 (by decide +kernel) (by decide +kernel)
theorem q_316 : (Jvm.Cond.instanceMethod ({ cls := "MatchingGraph$Graph", name := "besides", desc := "(I)I" } : Jvm.MethodName)) ∈ WS := ws_tin 316 (by decide +kernel) (by decide +kernel)
theorem q_317 : (Jvm.Cond.code ({ cls := "MatchingGraph$Graph", name := "besides", desc := "(I)I" } : Jvm.MethodName) prog_2_method_11_code (4 : Nat) (Option.some Jvm.ClassFile.FieldType.int)) ∈ WS := ws_tin 317 (by decide +kernel) (by decide +kernel)
theorem q_318 : (Jvm.Cond.methodLink "MatchingGraphLaw" (145 : Nat) ({ cls := "MatchingGraph", name := "proof", desc := "()I" } : Jvm.MethodName)) ∈ WS := ws_tin 318 (by decide +kernel) (by decide +kernel)
theorem q_319 : (Jvm.Cond.instanceMethod ({ cls := "MatchingGraph", name := "proof", desc := "()I" } : Jvm.MethodName)) ∈ WS := ws_tin 319 (by decide +kernel) (by decide +kernel)
theorem q_320 : (Jvm.Cond.selects "MatchingGraph" ({ cls := "MatchingGraph", name := "proof", desc := "()I" } : Jvm.MethodName) ({ cls := "MatchingGraph", name := "proof", desc := "()I" } : Jvm.MethodName)) ∈ WS := ws_tin 320 (by decide +kernel) (by decide +kernel)
theorem q_321 : (Jvm.Cond.code ({ cls := "MatchingGraph", name := "proof", desc := "()I" } : Jvm.MethodName) prog_1_method_22_code (7 : Nat) (Option.some Jvm.ClassFile.FieldType.int)) ∈ WS := ws_tin 321 (by decide +kernel) (by decide +kernel)
theorem q_322 : (Jvm.Cond.methodLink "MatchingGraph" (199 : Nat) ({ cls := "MatchingGraph$Graph", name := "all", desc := "()I" } : Jvm.MethodName)) ∈ WS := ws_tin 322 (by decide +kernel) (by decide +kernel)
theorem q_323 : (Jvm.Cond.methodLink "MatchingGraph" (202 : Nat) ({ cls := "MatchingGraph$Maxima", name := "exposable", desc := "()I" } : Jvm.MethodName)) ∈ WS := ws_tin 323 (by decide +kernel) (by decide +kernel)
theorem q_324 : (Jvm.Cond.instanceMethod ({ cls := "MatchingGraph$Maxima", name := "exposable", desc := "()I" } : Jvm.MethodName)) ∈ WS := ws_tin 324 (by decide +kernel) (by decide +kernel)
theorem q_325 : (Jvm.Cond.selects "MatchingGraph$Maxima" ({ cls := "MatchingGraph$Maxima", name := "exposable", desc := "()I" } : Jvm.MethodName) ({ cls := "MatchingGraph$Maxima", name := "exposable", desc := "()I" } : Jvm.MethodName)) ∈ WS := ws_tin 325 (by decide +kernel) (by decide +kernel)
theorem q_326 : (Jvm.Cond.code ({ cls := "MatchingGraph$Maxima", name := "exposable", desc := "()I" } : Jvm.MethodName) prog_6_method_7_code (4 : Nat) (Option.some Jvm.ClassFile.FieldType.int)) ∈ WS := ws_tin 326 (by decide +kernel) (by decide +kernel)
theorem q_327 : (Jvm.Cond.methodLink "MatchingGraph" (205 : Nat) ({ cls := "java/lang/Integer", name := "bitCount", desc := "(I)I" } : Jvm.MethodName)) ∈ WS := ws_tin 327 (by decide +kernel) (by decide +kernel)
theorem q_328 : (Jvm.Cond.static ({ cls := "java/lang/Integer", name := "bitCount", desc := "(I)I" } : Jvm.MethodName)) ∈ WS := ws_tin 328 (by decide +kernel) (by decide +kernel)
theorem q_329 : (Jvm.Cond.code ({ cls := "java/lang/Integer", name := "bitCount", desc := "(I)I" } : Jvm.MethodName) prog_14_method_49_code (1 : Nat) (Option.some Jvm.ClassFile.FieldType.int)) ∈ WS := ws_tin 329 (by decide +kernel) (by decide +kernel)
theorem q_330 : (Jvm.Cond.constant "java/lang/Integer" (265 : Nat) (1431655765 : Int32)) ∈ WS := ws_tin 330 (by decide +kernel) (by decide +kernel)
theorem q_331 : (Jvm.Cond.constant "java/lang/Integer" (266 : Nat) (858993459 : Int32)) ∈ WS := ws_tin 331 (by decide +kernel) (by decide +kernel)
theorem q_332 : (Jvm.Cond.constant "java/lang/Integer" (267 : Nat) (252645135 : Int32)) ∈ WS := ws_tin 332 (by decide +kernel) (by decide +kernel)
theorem q_333 : (Jvm.Cond.methodLink "MatchingGraph" (210 : Nat) ({ cls := "MatchingGraph", name := "isProof", desc := "(II)Z" } : Jvm.MethodName)) ∈ WS := ws_tin 333 (by decide +kernel) (by decide +kernel)
theorem q_335 : (Jvm.Cond.instanceMethod ({ cls := "MatchingGraph", name := "isProof", desc := "(II)Z" } : Jvm.MethodName)) ∈ WS := ws_tin 335 (by decide +kernel) (by decide +kernel)
theorem q_336 : (Jvm.Cond.code ({ cls := "MatchingGraph", name := "isProof", desc := "(II)Z" } : Jvm.MethodName) prog_1_method_23_code (3 : Nat) (Option.some Jvm.ClassFile.FieldType.boolean)) ∈ WS := ws_tin 336 (by decide +kernel) (by decide +kernel)
theorem q_337 : (Jvm.Cond.methodLink "MatchingGraph" (213 : Nat) ({ cls := "MatchingGraph$Graph", name := "pieces", desc := "(IZ)I" } : Jvm.MethodName)) ∈ WS := ws_tin 337 (by decide +kernel) (by decide +kernel)
theorem q_338 : (Jvm.Cond.instanceMethod ({ cls := "MatchingGraph$Graph", name := "pieces", desc := "(IZ)I" } : Jvm.MethodName)) ∈ WS := ws_tin 338 (by decide +kernel) (by decide +kernel)
theorem q_339 : (Jvm.Cond.selects "MatchingGraph$Graph" ({ cls := "MatchingGraph$Graph", name := "pieces", desc := "(IZ)I" } : Jvm.MethodName) ({ cls := "MatchingGraph$Graph", name := "pieces", desc := "(IZ)I" } : Jvm.MethodName)) ∈ WS := ws_tin 339 (by decide +kernel) (by decide +kernel)
theorem q_340 : (Jvm.Cond.code ({ cls := "MatchingGraph$Graph", name := "pieces", desc := "(IZ)I" } : Jvm.MethodName) prog_2_method_9_code (7 : Nat) (Option.some Jvm.ClassFile.FieldType.int)) ∈ WS := ws_tin 340 (by decide +kernel) (by decide +kernel)
theorem q_341 : (Jvm.Cond.methodLink "MatchingGraph$Graph" (47 : Nat) ({ cls := "MatchingGraph$Graph", name := "pieceOf", desc := "(II)I" } : Jvm.MethodName)) ∈ WS := ws_tin 341 (by decide +kernel) (by decide +kernel)
theorem q_342 : (Jvm.Cond.instanceMethod ({ cls := "MatchingGraph$Graph", name := "pieceOf", desc := "(II)I" } : Jvm.MethodName)) ∈ WS := ws_tin 342 (by decide +kernel) (by decide +kernel)
theorem q_343 : (Jvm.Cond.selects "MatchingGraph$Graph" ({ cls := "MatchingGraph$Graph", name := "pieceOf", desc := "(II)I" } : Jvm.MethodName) ({ cls := "MatchingGraph$Graph", name := "pieceOf", desc := "(II)I" } : Jvm.MethodName)) ∈ WS := ws_tin 343 (by decide +kernel) (by decide +kernel)
theorem q_344 : (Jvm.Cond.code ({ cls := "MatchingGraph$Graph", name := "pieceOf", desc := "(II)I" } : Jvm.MethodName) prog_2_method_8_code (8 : Nat) (Option.some Jvm.ClassFile.FieldType.int)) ∈ WS := ws_tin 344 (by decide +kernel) (by decide +kernel)
theorem q_345 : (Jvm.Cond.methodLink "MatchingGraph$Graph" (44 : Nat) ({ cls := "java/lang/Integer", name := "numberOfTrailingZeros", desc := "(I)I" } : Jvm.MethodName)) ∈ WS := ws_tin 345 (by decide +kernel) (by decide +kernel)
theorem q_346 : (Jvm.Cond.static ({ cls := "java/lang/Integer", name := "numberOfTrailingZeros", desc := "(I)I" } : Jvm.MethodName)) ∈ WS := ws_tin 346 (by decide +kernel) (by decide +kernel)
theorem q_347 : (Jvm.Cond.code ({ cls := "java/lang/Integer", name := "numberOfTrailingZeros", desc := "(I)I" } : Jvm.MethodName) prog_14_method_48_code (2 : Nat) (Option.some Jvm.ClassFile.FieldType.int)) ∈ WS := ws_tin 347 (by decide +kernel) (by decide +kernel)
theorem q_348 : (Jvm.Cond.constant "java/lang/Integer" (264 : Nat) (65536 : Int32)) ∈ WS := ws_tin 348 (by decide +kernel) (by decide +kernel)
theorem q_349 : (Jvm.Cond.methodLink "MatchingGraph$Graph" (38 : Nat) ({ cls := "java/lang/Integer", name := "bitCount", desc := "(I)I" } : Jvm.MethodName)) ∈ WS := ws_tin 349 (by decide +kernel) (by decide +kernel)
theorem q_350 : (Jvm.Cond.methodLink "MatchingGraph" (217 : Nat) ({ cls := "MatchingGraph", name := "deficiency", desc := "()I" } : Jvm.MethodName)) ∈ WS := ws_tin 350 (by decide +kernel) (by decide +kernel)
theorem q_352 : (Jvm.Cond.instanceMethod ({ cls := "MatchingGraph", name := "deficiency", desc := "()I" } : Jvm.MethodName)) ∈ WS := ws_tin 352 (by decide +kernel) (by decide +kernel)
theorem q_353 : (Jvm.Cond.code ({ cls := "MatchingGraph", name := "deficiency", desc := "()I" } : Jvm.MethodName) prog_1_method_30_code (1 : Nat) (Option.some Jvm.ClassFile.FieldType.int)) ∈ WS := ws_tin 353 (by decide +kernel) (by decide +kernel)
theorem q_354 : (Jvm.Cond.methodLink "MatchingGraph" (222 : Nat) ({ cls := "MatchingGraph$Maxima", name := "number", desc := "()I" } : Jvm.MethodName)) ∈ WS := ws_tin 354 (by decide +kernel) (by decide +kernel)
theorem q_355 : (Jvm.Cond.instanceMethod ({ cls := "MatchingGraph$Maxima", name := "number", desc := "()I" } : Jvm.MethodName)) ∈ WS := ws_tin 355 (by decide +kernel) (by decide +kernel)
theorem q_356 : (Jvm.Cond.selects "MatchingGraph$Maxima" ({ cls := "MatchingGraph$Maxima", name := "number", desc := "()I" } : Jvm.MethodName) ({ cls := "MatchingGraph$Maxima", name := "number", desc := "()I" } : Jvm.MethodName)) ∈ WS := ws_tin 356 (by decide +kernel) (by decide +kernel)
theorem q_357 : (Jvm.Cond.code ({ cls := "MatchingGraph$Maxima", name := "number", desc := "()I" } : Jvm.MethodName) prog_6_method_4_code (1 : Nat) (Option.some Jvm.ClassFile.FieldType.int)) ∈ WS := ws_tin 357 (by decide +kernel) (by decide +kernel)
theorem q_358 : (Jvm.Cond.methodLink "MatchingGraphLaw" (168 : Nat) ({ cls := "MatchingGraph", name := "meanUse", desc := "()D" } : Jvm.MethodName)) ∈ WS := ws_tin 358 (by decide +kernel) (by decide +kernel)
theorem q_359 : (Jvm.Cond.instanceMethod ({ cls := "MatchingGraph", name := "meanUse", desc := "()D" } : Jvm.MethodName)) ∈ WS := ws_tin 359 (by decide +kernel) (by decide +kernel)
theorem q_360 : (Jvm.Cond.selects "MatchingGraph" ({ cls := "MatchingGraph", name := "meanUse", desc := "()D" } : Jvm.MethodName) ({ cls := "MatchingGraph", name := "meanUse", desc := "()D" } : Jvm.MethodName)) ∈ WS := ws_tin 360 (by decide +kernel) (by decide +kernel)
theorem q_361 : (Jvm.Cond.code ({ cls := "MatchingGraph", name := "meanUse", desc := "()D" } : Jvm.MethodName) prog_1_method_33_code (5 : Nat) (Option.some Jvm.ClassFile.FieldType.double)) ∈ WS := ws_tin 361 (by decide +kernel) (by decide +kernel)
theorem q_362 : (Jvm.Cond.methodLink "MatchingGraph" (259 : Nat) ({ cls := "MatchingGraph$Graph", name := "edges", desc := "()I" } : Jvm.MethodName)) ∈ WS := ws_tin 362 (by decide +kernel) (by decide +kernel)
theorem q_363 : (Jvm.Cond.instanceMethod ({ cls := "MatchingGraph$Graph", name := "edges", desc := "()I" } : Jvm.MethodName)) ∈ WS := ws_tin 363 (by decide +kernel) (by decide +kernel)
theorem q_364 : (Jvm.Cond.selects "MatchingGraph$Graph" ({ cls := "MatchingGraph$Graph", name := "edges", desc := "()I" } : Jvm.MethodName) ({ cls := "MatchingGraph$Graph", name := "edges", desc := "()I" } : Jvm.MethodName)) ∈ WS := ws_tin 364 (by decide +kernel) (by decide +kernel)
theorem q_365 : (Jvm.Cond.code ({ cls := "MatchingGraph$Graph", name := "edges", desc := "()I" } : Jvm.MethodName) prog_2_method_7_code (3 : Nat) (Option.some Jvm.ClassFile.FieldType.int)) ∈ WS := ws_tin 365 (by decide +kernel) (by decide +kernel)
theorem q_366 : (Jvm.Cond.methodLink "MatchingGraph" (229 : Nat) ({ cls := "MatchingGraph$Maxima", name := "howMany", desc := "()I" } : Jvm.MethodName)) ∈ WS := ws_tin 366 (by decide +kernel) (by decide +kernel)
theorem q_367 : (Jvm.Cond.instanceMethod ({ cls := "MatchingGraph$Maxima", name := "howMany", desc := "()I" } : Jvm.MethodName)) ∈ WS := ws_tin 367 (by decide +kernel) (by decide +kernel)
theorem q_368 : (Jvm.Cond.selects "MatchingGraph$Maxima" ({ cls := "MatchingGraph$Maxima", name := "howMany", desc := "()I" } : Jvm.MethodName) ({ cls := "MatchingGraph$Maxima", name := "howMany", desc := "()I" } : Jvm.MethodName)) ∈ WS := ws_tin 368 (by decide +kernel) (by decide +kernel)
theorem q_369 : (Jvm.Cond.code ({ cls := "MatchingGraph$Maxima", name := "howMany", desc := "()I" } : Jvm.MethodName) prog_6_method_5_code (1 : Nat) (Option.some Jvm.ClassFile.FieldType.int)) ∈ WS := ws_tin 369 (by decide +kernel) (by decide +kernel)
theorem q_370 : (Jvm.Cond.methodLink "MatchingGraph" (225 : Nat) ({ cls := "MatchingGraph$Maxima", name := "having", desc := "(II)I" } : Jvm.MethodName)) ∈ WS := ws_tin 370 (by decide +kernel) (by decide +kernel)
theorem q_371 : (Jvm.Cond.instanceMethod ({ cls := "MatchingGraph$Maxima", name := "having", desc := "(II)I" } : Jvm.MethodName)) ∈ WS := ws_tin 371 (by decide +kernel) (by decide +kernel)
theorem q_372 : (Jvm.Cond.selects "MatchingGraph$Maxima" ({ cls := "MatchingGraph$Maxima", name := "having", desc := "(II)I" } : Jvm.MethodName) ({ cls := "MatchingGraph$Maxima", name := "having", desc := "(II)I" } : Jvm.MethodName)) ∈ WS := ws_tin 372 (by decide +kernel) (by decide +kernel)
theorem q_373 : (Jvm.Cond.code ({ cls := "MatchingGraph$Maxima", name := "having", desc := "(II)I" } : Jvm.MethodName) prog_6_method_10_code (5 : Nat) (Option.some Jvm.ClassFile.FieldType.int)) ∈ WS := ws_tin 373 (by decide +kernel) (by decide +kernel)
theorem q_374 : (Jvm.Cond.methodLink "MatchingGraph$Maxima" (65 : Nat) ({ cls := "MatchingGraph$Graph", name := "joined", desc := "(II)Z" } : Jvm.MethodName)) ∈ WS := ws_tin 374 (by decide +kernel) (by decide +kernel)
theorem q_375 : (Jvm.Cond.methodLink "MatchingGraphLaw" (173 : Nat) ({ cls := "MatchingGraph", name := "digest", desc := "()J" } : Jvm.MethodName)) ∈ WS := ws_tin 375 (by decide +kernel) (by decide +kernel)
theorem q_376 : (Jvm.Cond.instanceMethod ({ cls := "MatchingGraph", name := "digest", desc := "()J" } : Jvm.MethodName)) ∈ WS := ws_tin 376 (by decide +kernel) (by decide +kernel)
theorem q_377 : (Jvm.Cond.selects "MatchingGraph" ({ cls := "MatchingGraph", name := "digest", desc := "()J" } : Jvm.MethodName) ({ cls := "MatchingGraph", name := "digest", desc := "()J" } : Jvm.MethodName)) ∈ WS := ws_tin 377 (by decide +kernel) (by decide +kernel)
theorem q_378 : (Jvm.Cond.code ({ cls := "MatchingGraph", name := "digest", desc := "()J" } : Jvm.MethodName) prog_1_method_34_code (5 : Nat) (Option.some Jvm.ClassFile.FieldType.long)) ∈ WS := ws_tin 378 (by decide +kernel) (by decide +kernel)
theorem q_379 : (Jvm.Cond.constantLong "MatchingGraph" (279 : Nat) (2003 : Int64)) ∈ WS := ws_tin 379 (by decide +kernel) (by decide +kernel)
theorem q_380 : (Jvm.Cond.methodLink "MatchingGraph" (281 : Nat) ({ cls := "MatchingGraph", name := "count", desc := "(I)I" } : Jvm.MethodName)) ∈ WS := ws_tin 380 (by decide +kernel) (by decide +kernel)
theorem q_381 : (Jvm.Cond.instanceMethod ({ cls := "MatchingGraph", name := "count", desc := "(I)I" } : Jvm.MethodName)) ∈ WS := ws_tin 381 (by decide +kernel) (by decide +kernel)
theorem q_382 : (Jvm.Cond.selects "MatchingGraph" ({ cls := "MatchingGraph", name := "count", desc := "(I)I" } : Jvm.MethodName) ({ cls := "MatchingGraph", name := "count", desc := "(I)I" } : Jvm.MethodName)) ∈ WS := ws_tin 382 (by decide +kernel) (by decide +kernel)
theorem q_383 : (Jvm.Cond.code ({ cls := "MatchingGraph", name := "count", desc := "(I)I" } : Jvm.MethodName) prog_1_method_29_code (2 : Nat) (Option.some Jvm.ClassFile.FieldType.int)) ∈ WS := ws_tin 383 (by decide +kernel) (by decide +kernel)
theorem q_384 : (Jvm.Cond.methodLink "MatchingGraph" (144 : Nat) ({ cls := "MatchingGraph$Matching", name := "size", desc := "()I" } : Jvm.MethodName)) ∈ WS := ws_tin 384 (by decide +kernel) (by decide +kernel)
theorem q_385 : (Jvm.Cond.methodLink "MatchingGraph" (262 : Nat) ({ cls := "MatchingGraph$Maxima", name := "edgesHadBy", desc := "(I)I" } : Jvm.MethodName)) ∈ WS := ws_tin 385 (by decide +kernel) (by decide +kernel)
theorem q_386 : (Jvm.Cond.instanceMethod ({ cls := "MatchingGraph$Maxima", name := "edgesHadBy", desc := "(I)I" } : Jvm.MethodName)) ∈ WS := ws_tin 386 (by decide +kernel) (by decide +kernel)
theorem q_387 : (Jvm.Cond.selects "MatchingGraph$Maxima" ({ cls := "MatchingGraph$Maxima", name := "edgesHadBy", desc := "(I)I" } : Jvm.MethodName) ({ cls := "MatchingGraph$Maxima", name := "edgesHadBy", desc := "(I)I" } : Jvm.MethodName)) ∈ WS := ws_tin 387 (by decide +kernel) (by decide +kernel)
theorem q_388 : (Jvm.Cond.code ({ cls := "MatchingGraph$Maxima", name := "edgesHadBy", desc := "(I)I" } : Jvm.MethodName) prog_6_method_11_code (5 : Nat) (Option.some Jvm.ClassFile.FieldType.int)) ∈ WS := ws_tin 388 (by decide +kernel) (by decide +kernel)
theorem q_389 : (Jvm.Cond.methodLink "MatchingGraph$Maxima" (69 : Nat) ({ cls := "MatchingGraph$Maxima", name := "having", desc := "(II)I" } : Jvm.MethodName)) ∈ WS := ws_tin 389 (by decide +kernel) (by decide +kernel)
theorem q_390 : (Jvm.Cond.methodLink "MatchingGraph" (265 : Nat) ({ cls := "MatchingGraph$Maxima", name := "isCritical", desc := "()Z" } : Jvm.MethodName)) ∈ WS := ws_tin 390 (by decide +kernel) (by decide +kernel)
theorem q_391 : (Jvm.Cond.instanceMethod ({ cls := "MatchingGraph$Maxima", name := "isCritical", desc := "()Z" } : Jvm.MethodName)) ∈ WS := ws_tin 391 (by decide +kernel) (by decide +kernel)
theorem q_392 : (Jvm.Cond.selects "MatchingGraph$Maxima" ({ cls := "MatchingGraph$Maxima", name := "isCritical", desc := "()Z" } : Jvm.MethodName) ({ cls := "MatchingGraph$Maxima", name := "isCritical", desc := "()Z" } : Jvm.MethodName)) ∈ WS := ws_tin 392 (by decide +kernel) (by decide +kernel)
theorem q_393 : (Jvm.Cond.code ({ cls := "MatchingGraph$Maxima", name := "isCritical", desc := "()Z" } : Jvm.MethodName) prog_6_method_8_code (3 : Nat) (Option.some Jvm.ClassFile.FieldType.boolean)) ∈ WS := ws_tin 393 (by decide +kernel) (by decide +kernel)
theorem q_394 : (Jvm.Cond.classLink "MatchingGraph" (58 : Nat) "java/lang/IllegalArgumentException") ∈ WS := ws_tin 394 (by decide +kernel) (by decide +kernel)
theorem q_395 : (Jvm.Cond.instantiable "java/lang/IllegalArgumentException" (6 : Nat)) ∈ WS := ws_tin 395 (by decide +kernel) (by decide +kernel)
theorem q_403 : (Jvm.Cond.selects "java/lang/IllegalArgumentException" ({ cls := "java/lang/Throwable", name := "fillInStackTrace", desc := "(I)Ljava/lang/Throwable;" } : Jvm.MethodName) ({ cls := "java/lang/Throwable", name := "fillInStackTrace", desc := "(I)Ljava/lang/Throwable;" } : Jvm.MethodName)) ∈ WS := ws_tin 403 (by decide +kernel) (by decide +kernel)
theorem q_404 : (Jvm.Cond.selects "java/lang/IllegalArgumentException" ({ cls := "java/lang/Throwable", name := "fillInStackTrace", desc := "()Ljava/lang/Throwable;" } : Jvm.MethodName) ({ cls := "java/lang/Throwable", name := "fillInStackTrace", desc := "()Ljava/lang/Throwable;" } : Jvm.MethodName)) ∈ WS := ws_tin 404 (by decide +kernel) (by decide +kernel)
theorem q_405 : (Jvm.Cond.lays "java/lang/IllegalArgumentException" "java/lang/Throwable" "cause" "Ljava/lang/Throwable;") ∈ WS := ws_tin 405 (by decide +kernel) (by decide +kernel)
theorem q_406 : (Jvm.Cond.lays "java/lang/Throwable" "java/lang/Throwable" "cause" "Ljava/lang/Throwable;") ∈ WS := ws_tin 406 (by decide +kernel) (by decide +kernel)
theorem q_407 : (Jvm.Cond.lays "java/lang/IllegalArgumentException" "java/lang/Throwable" "stackTrace" "[Ljava/lang/StackTraceElement;") ∈ WS := ws_tin 407 (by decide +kernel) (by decide +kernel)
theorem q_408 : (Jvm.Cond.lays "java/lang/Throwable" "java/lang/Throwable" "stackTrace" "[Ljava/lang/StackTraceElement;") ∈ WS := ws_tin 408 (by decide +kernel) (by decide +kernel)
theorem q_409 : (Jvm.Cond.lays "java/lang/IllegalArgumentException" "java/lang/Throwable" "suppressedExceptions" "Ljava/util/List;") ∈ WS := ws_tin 409 (by decide +kernel) (by decide +kernel)
theorem q_410 : (Jvm.Cond.lays "java/lang/Throwable" "java/lang/Throwable" "suppressedExceptions" "Ljava/util/List;") ∈ WS := ws_tin 410 (by decide +kernel) (by decide +kernel)
theorem q_411 : (Jvm.Cond.lays "java/lang/IllegalArgumentException" "java/lang/Throwable" "detailMessage" "Ljava/lang/String;") ∈ WS := ws_tin 411 (by decide +kernel) (by decide +kernel)
theorem q_412 : (Jvm.Cond.lays "java/lang/Throwable" "java/lang/Throwable" "detailMessage" "Ljava/lang/String;") ∈ WS := ws_tin 412 (by decide +kernel) (by decide +kernel)
theorem q_413 : (Jvm.Cond.lays "java/lang/IllegalArgumentException" "java/lang/Throwable" "backtrace" "Ljava/lang/Object;") ∈ WS := ws_tin 413 (by decide +kernel) (by decide +kernel)
theorem q_414 : (Jvm.Cond.lays "java/lang/Throwable" "java/lang/Throwable" "backtrace" "Ljava/lang/Object;") ∈ WS := ws_tin 414 (by decide +kernel) (by decide +kernel)
theorem q_415 : (Jvm.Cond.fieldLink "java/lang/Throwable" (198 : Nat) "java/lang/Throwable" "backtrace" "Ljava/lang/Object;") ∈ WS := ws_tin 415 (by decide +kernel) (by decide +kernel)
theorem q_417 : (Jvm.Cond.instanceMethod ({ cls := "java/lang/Throwable", name := "<init>", desc := "()V" } : Jvm.MethodName)) ∈ WS := ws_tin 417 (by decide +kernel) (by decide +kernel)
theorem q_418 : (Jvm.Cond.code ({ cls := "java/lang/Throwable", name := "<init>", desc := "()V" } : Jvm.MethodName) prog_19_method_1_code (1 : Nat) (Option.none : Option Jvm.ClassFile.FieldType)) ∈ WS := ws_tin 418 (by decide +kernel) (by decide +kernel)
theorem q_419 : (Jvm.Cond.methodLink "java/lang/Throwable" (1 : Nat) ({ cls := "java/lang/Object", name := "<init>", desc := "()V" } : Jvm.MethodName)) ∈ WS := ws_tin 419 (by decide +kernel) (by decide +kernel)
theorem q_420 : (Jvm.Cond.fieldLink "java/lang/Throwable" (13 : Nat) "java/lang/Throwable" "UNASSIGNED_STACK" "[Ljava/lang/StackTraceElement;") ∈ WS := ws_tin 420 (by decide +kernel) (by decide +kernel)
theorem q_422 : (Jvm.Cond.fieldLink "java/lang/Throwable" (20 : Nat) "java/lang/Throwable" "SUPPRESSED_SENTINEL" "Ljava/util/List;") ∈ WS := ws_tin 422 (by decide +kernel) (by decide +kernel)
theorem q_424 : (Jvm.Cond.methodLink "java/lang/Throwable" (27 : Nat) ({ cls := "java/lang/Throwable", name := "fillInStackTrace", desc := "()Ljava/lang/Throwable;" } : Jvm.MethodName)) ∈ WS := ws_tin 424 (by decide +kernel) (by decide +kernel)
theorem q_425 : (Jvm.Cond.instanceMethod ({ cls := "java/lang/Throwable", name := "fillInStackTrace", desc := "()Ljava/lang/Throwable;" } : Jvm.MethodName)) ∈ WS := ws_tin 425 (by decide +kernel) (by decide +kernel)
theorem q_427 : (Jvm.Cond.selects "java/lang/IllegalStateException" ({ cls := "java/lang/Throwable", name := "fillInStackTrace", desc := "()Ljava/lang/Throwable;" } : Jvm.MethodName) ({ cls := "java/lang/Throwable", name := "fillInStackTrace", desc := "()Ljava/lang/Throwable;" } : Jvm.MethodName)) ∈ WS := ws_tin 427 (by decide +kernel) (by decide +kernel)
theorem q_428 : (Jvm.Cond.selects "java/lang/IndexOutOfBoundsException" ({ cls := "java/lang/Throwable", name := "fillInStackTrace", desc := "()Ljava/lang/Throwable;" } : Jvm.MethodName) ({ cls := "java/lang/Throwable", name := "fillInStackTrace", desc := "()Ljava/lang/Throwable;" } : Jvm.MethodName)) ∈ WS := ws_tin 428 (by decide +kernel) (by decide +kernel)
theorem q_429 : (Jvm.Cond.codeSync ({ cls := "java/lang/Throwable", name := "fillInStackTrace", desc := "()Ljava/lang/Throwable;" } : Jvm.MethodName) prog_19_method_18_code (1 : Nat) (Option.some (Jvm.ClassFile.FieldType.object "java/lang/Throwable"))) ∈ WS := ws_tin 429 (by decide +kernel) (by decide +kernel)
theorem q_430 : (Jvm.Cond.methodLink "java/lang/Throwable" (202 : Nat) ({ cls := "java/lang/Throwable", name := "fillInStackTrace", desc := "(I)Ljava/lang/Throwable;" } : Jvm.MethodName)) ∈ WS := ws_tin 430 (by decide +kernel) (by decide +kernel)
theorem q_432 : (Jvm.Cond.instanceMethod ({ cls := "java/lang/Throwable", name := "fillInStackTrace", desc := "(I)Ljava/lang/Throwable;" } : Jvm.MethodName)) ∈ WS := ws_tin 432 (by decide +kernel) (by decide +kernel)
theorem q_433 : (Jvm.Cond.instantiable "java/lang/Throwable" (6 : Nat)) ∈ WS := ws_tin 433 (by decide +kernel) (by decide +kernel)
theorem q_434 : (Jvm.Cond.native ({ cls := "java/lang/Throwable", name := "fillInStackTrace", desc := "(I)Ljava/lang/Throwable;" } : Jvm.MethodName)) ∈ WS := ws_tin 434 (by decide +kernel) (by decide +kernel)
theorem q_436 : (Jvm.Cond.methodLink "MatchingGraph" (62 : Nat) ({ cls := "java/lang/IllegalArgumentException", name := "<init>", desc := "(Ljava/lang/String;)V" } : Jvm.MethodName)) ∈ WS := ws_tin 436 (by decide +kernel) (by decide +kernel)
theorem q_437 : (Jvm.Cond.instanceMethod ({ cls := "java/lang/IllegalArgumentException", name := "<init>", desc := "(Ljava/lang/String;)V" } : Jvm.MethodName)) ∈ WS := ws_tin 437 (by decide +kernel) (by decide +kernel)
theorem q_438 : (Jvm.Cond.code ({ cls := "java/lang/IllegalArgumentException", name := "<init>", desc := "(Ljava/lang/String;)V" } : Jvm.MethodName) prog_11_method_2_code (2 : Nat) (Option.none : Option Jvm.ClassFile.FieldType)) ∈ WS := ws_tin 438 (by decide +kernel) (by decide +kernel)
theorem q_439 : (Jvm.Cond.methodLink "java/lang/IllegalArgumentException" (7 : Nat) ({ cls := "java/lang/RuntimeException", name := "<init>", desc := "(Ljava/lang/String;)V" } : Jvm.MethodName)) ∈ WS := ws_tin 439 (by decide +kernel) (by decide +kernel)
theorem q_440 : (Jvm.Cond.instanceMethod ({ cls := "java/lang/RuntimeException", name := "<init>", desc := "(Ljava/lang/String;)V" } : Jvm.MethodName)) ∈ WS := ws_tin 440 (by decide +kernel) (by decide +kernel)
theorem q_441 : (Jvm.Cond.code ({ cls := "java/lang/RuntimeException", name := "<init>", desc := "(Ljava/lang/String;)V" } : Jvm.MethodName) prog_16_method_2_code (2 : Nat) (Option.none : Option Jvm.ClassFile.FieldType)) ∈ WS := ws_tin 441 (by decide +kernel) (by decide +kernel)
theorem q_442 : (Jvm.Cond.methodLink "java/lang/RuntimeException" (7 : Nat) ({ cls := "java/lang/Exception", name := "<init>", desc := "(Ljava/lang/String;)V" } : Jvm.MethodName)) ∈ WS := ws_tin 442 (by decide +kernel) (by decide +kernel)
theorem q_443 : (Jvm.Cond.instanceMethod ({ cls := "java/lang/Exception", name := "<init>", desc := "(Ljava/lang/String;)V" } : Jvm.MethodName)) ∈ WS := ws_tin 443 (by decide +kernel) (by decide +kernel)
theorem q_444 : (Jvm.Cond.code ({ cls := "java/lang/Exception", name := "<init>", desc := "(Ljava/lang/String;)V" } : Jvm.MethodName) prog_10_method_2_code (2 : Nat) (Option.none : Option Jvm.ClassFile.FieldType)) ∈ WS := ws_tin 444 (by decide +kernel) (by decide +kernel)
theorem q_445 : (Jvm.Cond.methodLink "java/lang/Exception" (7 : Nat) ({ cls := "java/lang/Throwable", name := "<init>", desc := "(Ljava/lang/String;)V" } : Jvm.MethodName)) ∈ WS := ws_tin 445 (by decide +kernel) (by decide +kernel)
theorem q_446 : (Jvm.Cond.instanceMethod ({ cls := "java/lang/Throwable", name := "<init>", desc := "(Ljava/lang/String;)V" } : Jvm.MethodName)) ∈ WS := ws_tin 446 (by decide +kernel) (by decide +kernel)
theorem q_447 : (Jvm.Cond.code ({ cls := "java/lang/Throwable", name := "<init>", desc := "(Ljava/lang/String;)V" } : Jvm.MethodName) prog_19_method_2_code (2 : Nat) (Option.none : Option Jvm.ClassFile.FieldType)) ∈ WS := ws_tin 447 (by decide +kernel) (by decide +kernel)
theorem q_448 : (Jvm.Cond.fieldLink "java/lang/Throwable" (198 : Nat) "java/lang/Throwable" "backtrace" "Ljava/lang/Object;") ∈ WS := ws_tin 448 (by decide +kernel) (by decide +kernel)
theorem q_449 : (Jvm.Cond.fieldLink "java/lang/Throwable" (31 : Nat) "java/lang/Throwable" "detailMessage" "Ljava/lang/String;") ∈ WS := ws_tin 449 (by decide +kernel) (by decide +kernel)
theorem q_450 : (Jvm.Cond.fieldLink "java/lang/Throwable" (7 : Nat) "java/lang/Throwable" "cause" "Ljava/lang/Throwable;") ∈ WS := ws_tin 450 (by decide +kernel) (by decide +kernel)
theorem q_451 : (Jvm.Cond.fieldLink "java/lang/Throwable" (17 : Nat) "java/lang/Throwable" "stackTrace" "[Ljava/lang/StackTraceElement;") ∈ WS := ws_tin 451 (by decide +kernel) (by decide +kernel)
theorem q_452 : (Jvm.Cond.fieldLink "java/lang/Throwable" (24 : Nat) "java/lang/Throwable" "suppressedExceptions" "Ljava/util/List;") ∈ WS := ws_tin 452 (by decide +kernel) (by decide +kernel)
theorem q_457 : (Jvm.Cond.lays "java/lang/IllegalArgumentException" "java/lang/Throwable" "depth" "I") ∈ WS := ws_tin 457 (by decide +kernel) (by decide +kernel)
theorem q_461 : (Jvm.Cond.arrayClass Jvm.ClassFile.FieldType.byte) ∈ WS := ws_tin 461 (by decide +kernel) (by decide +kernel)
theorem q_462 : (Jvm.Cond.methodLink "MatchingGraph" (284 : Nat) ({ cls := "MatchingGraph", name := "mix", desc := "(JJ)J" } : Jvm.MethodName)) ∈ WS := ws_tin 462 (by decide +kernel) (by decide +kernel)
theorem q_463 : (Jvm.Cond.static ({ cls := "MatchingGraph", name := "mix", desc := "(JJ)J" } : Jvm.MethodName)) ∈ WS := ws_tin 463 (by decide +kernel) (by decide +kernel)
theorem q_464 : (Jvm.Cond.code ({ cls := "MatchingGraph", name := "mix", desc := "(JJ)J" } : Jvm.MethodName) prog_1_method_38_code (4 : Nat) (Option.some Jvm.ClassFile.FieldType.long)) ∈ WS := ws_tin 464 (by decide +kernel) (by decide +kernel)
theorem q_465 : (Jvm.Cond.constantLong "MatchingGraph" (328 : Nat) (31 : Int64)) ∈ WS := ws_tin 465 (by decide +kernel) (by decide +kernel)
theorem q_466 : (Jvm.Cond.methodLink "MatchingGraph" (288 : Nat) ({ cls := "MatchingGraph", name := "mixNode", desc := "(JI)J" } : Jvm.MethodName)) ∈ WS := ws_tin 466 (by decide +kernel) (by decide +kernel)
theorem q_468 : (Jvm.Cond.instanceMethod ({ cls := "MatchingGraph", name := "mixNode", desc := "(JI)J" } : Jvm.MethodName)) ∈ WS := ws_tin 468 (by decide +kernel) (by decide +kernel)
theorem q_469 : (Jvm.Cond.code ({ cls := "MatchingGraph", name := "mixNode", desc := "(JI)J" } : Jvm.MethodName) prog_1_method_35_code (7 : Nat) (Option.some Jvm.ClassFile.FieldType.long)) ∈ WS := ws_tin 469 (by decide +kernel) (by decide +kernel)
theorem q_470 : (Jvm.Cond.methodLink "MatchingGraph" (309 : Nat) ({ cls := "MatchingGraph", name := "node", desc := "(II)I" } : Jvm.MethodName)) ∈ WS := ws_tin 470 (by decide +kernel) (by decide +kernel)
theorem q_471 : (Jvm.Cond.instanceMethod ({ cls := "MatchingGraph", name := "node", desc := "(II)I" } : Jvm.MethodName)) ∈ WS := ws_tin 471 (by decide +kernel) (by decide +kernel)
theorem q_472 : (Jvm.Cond.selects "MatchingGraph" ({ cls := "MatchingGraph", name := "node", desc := "(II)I" } : Jvm.MethodName) ({ cls := "MatchingGraph", name := "node", desc := "(II)I" } : Jvm.MethodName)) ∈ WS := ws_tin 472 (by decide +kernel) (by decide +kernel)
theorem q_473 : (Jvm.Cond.code ({ cls := "MatchingGraph", name := "node", desc := "(II)I" } : Jvm.MethodName) prog_1_method_26_code (3 : Nat) (Option.some Jvm.ClassFile.FieldType.int)) ∈ WS := ws_tin 473 (by decide +kernel) (by decide +kernel)
theorem q_474 : (Jvm.Cond.methodLink "MatchingGraph" (76 : Nat) ({ cls := "MatchingGraph", name := "requireNode", desc := "(I)V" } : Jvm.MethodName)) ∈ WS := ws_tin 474 (by decide +kernel) (by decide +kernel)
theorem q_476 : (Jvm.Cond.instanceMethod ({ cls := "MatchingGraph", name := "requireNode", desc := "(I)V" } : Jvm.MethodName)) ∈ WS := ws_tin 476 (by decide +kernel) (by decide +kernel)
theorem q_477 : (Jvm.Cond.code ({ cls := "MatchingGraph", name := "requireNode", desc := "(I)V" } : Jvm.MethodName) prog_1_method_39_code (2 : Nat) (Option.none : Option Jvm.ClassFile.FieldType)) ∈ WS := ws_tin 477 (by decide +kernel) (by decide +kernel)
theorem q_478 : (Jvm.Cond.classLink "MatchingGraph" (330 : Nat) "java/lang/IndexOutOfBoundsException") ∈ WS := ws_tin 478 (by decide +kernel) (by decide +kernel)
theorem q_479 : (Jvm.Cond.instantiable "java/lang/IndexOutOfBoundsException" (6 : Nat)) ∈ WS := ws_tin 479 (by decide +kernel) (by decide +kernel)
theorem q_481 : (Jvm.Cond.selects "java/lang/IndexOutOfBoundsException" ({ cls := "java/lang/Throwable", name := "fillInStackTrace", desc := "(I)Ljava/lang/Throwable;" } : Jvm.MethodName) ({ cls := "java/lang/Throwable", name := "fillInStackTrace", desc := "(I)Ljava/lang/Throwable;" } : Jvm.MethodName)) ∈ WS := ws_tin 481 (by decide +kernel) (by decide +kernel)
theorem q_482 : (Jvm.Cond.lays "java/lang/IndexOutOfBoundsException" "java/lang/Throwable" "cause" "Ljava/lang/Throwable;") ∈ WS := ws_tin 482 (by decide +kernel) (by decide +kernel)
theorem q_483 : (Jvm.Cond.lays "java/lang/IndexOutOfBoundsException" "java/lang/Throwable" "stackTrace" "[Ljava/lang/StackTraceElement;") ∈ WS := ws_tin 483 (by decide +kernel) (by decide +kernel)
theorem q_484 : (Jvm.Cond.lays "java/lang/IndexOutOfBoundsException" "java/lang/Throwable" "suppressedExceptions" "Ljava/util/List;") ∈ WS := ws_tin 484 (by decide +kernel) (by decide +kernel)
theorem q_485 : (Jvm.Cond.lays "java/lang/IndexOutOfBoundsException" "java/lang/Throwable" "detailMessage" "Ljava/lang/String;") ∈ WS := ws_tin 485 (by decide +kernel) (by decide +kernel)
theorem q_486 : (Jvm.Cond.lays "java/lang/IndexOutOfBoundsException" "java/lang/Throwable" "backtrace" "Ljava/lang/Object;") ∈ WS := ws_tin 486 (by decide +kernel) (by decide +kernel)
theorem q_488 : (Jvm.Cond.methodLink "MatchingGraph" (334 : Nat) ({ cls := "java/lang/IndexOutOfBoundsException", name := "<init>", desc := "(Ljava/lang/String;)V" } : Jvm.MethodName)) ∈ WS := ws_tin 488 (by decide +kernel) (by decide +kernel)
theorem q_489 : (Jvm.Cond.instanceMethod ({ cls := "java/lang/IndexOutOfBoundsException", name := "<init>", desc := "(Ljava/lang/String;)V" } : Jvm.MethodName)) ∈ WS := ws_tin 489 (by decide +kernel) (by decide +kernel)
theorem q_490 : (Jvm.Cond.code ({ cls := "java/lang/IndexOutOfBoundsException", name := "<init>", desc := "(Ljava/lang/String;)V" } : Jvm.MethodName) prog_13_method_2_code (2 : Nat) (Option.none : Option Jvm.ClassFile.FieldType)) ∈ WS := ws_tin 490 (by decide +kernel) (by decide +kernel)
theorem q_491 : (Jvm.Cond.methodLink "java/lang/IndexOutOfBoundsException" (7 : Nat) ({ cls := "java/lang/RuntimeException", name := "<init>", desc := "(Ljava/lang/String;)V" } : Jvm.MethodName)) ∈ WS := ws_tin 491 (by decide +kernel) (by decide +kernel)
theorem q_492 : (Jvm.Cond.lays "java/lang/IndexOutOfBoundsException" "java/lang/Throwable" "depth" "I") ∈ WS := ws_tin 492 (by decide +kernel) (by decide +kernel)
theorem q_494 : (Jvm.Cond.methodLink "MatchingGraph" (243 : Nat) ({ cls := "MatchingGraph", name := "partOf", desc := "(I)I" } : Jvm.MethodName)) ∈ WS := ws_tin 494 (by decide +kernel) (by decide +kernel)
theorem q_496 : (Jvm.Cond.instanceMethod ({ cls := "MatchingGraph", name := "partOf", desc := "(I)I" } : Jvm.MethodName)) ∈ WS := ws_tin 496 (by decide +kernel) (by decide +kernel)
theorem q_497 : (Jvm.Cond.code ({ cls := "MatchingGraph", name := "partOf", desc := "(I)I" } : Jvm.MethodName) prog_1_method_27_code (3 : Nat) (Option.some Jvm.ClassFile.FieldType.int)) ∈ WS := ws_tin 497 (by decide +kernel) (by decide +kernel)
theorem q_498 : (Jvm.Cond.methodLink "MatchingGraph" (246 : Nat) ({ cls := "MatchingGraph$Maxima", name := "exposing", desc := "(I)I" } : Jvm.MethodName)) ∈ WS := ws_tin 498 (by decide +kernel) (by decide +kernel)
theorem q_499 : (Jvm.Cond.instanceMethod ({ cls := "MatchingGraph$Maxima", name := "exposing", desc := "(I)I" } : Jvm.MethodName)) ∈ WS := ws_tin 499 (by decide +kernel) (by decide +kernel)
theorem q_500 : (Jvm.Cond.selects "MatchingGraph$Maxima" ({ cls := "MatchingGraph$Maxima", name := "exposing", desc := "(I)I" } : Jvm.MethodName) ({ cls := "MatchingGraph$Maxima", name := "exposing", desc := "(I)I" } : Jvm.MethodName)) ∈ WS := ws_tin 500 (by decide +kernel) (by decide +kernel)
theorem q_501 : (Jvm.Cond.code ({ cls := "MatchingGraph$Maxima", name := "exposing", desc := "(I)I" } : Jvm.MethodName) prog_6_method_6_code (4 : Nat) (Option.some Jvm.ClassFile.FieldType.int)) ∈ WS := ws_tin 501 (by decide +kernel) (by decide +kernel)
theorem q_502 : (Jvm.Cond.methodLink "MatchingGraph" (249 : Nat) ({ cls := "MatchingGraph$Graph", name := "pieceOf", desc := "(II)I" } : Jvm.MethodName)) ∈ WS := ws_tin 502 (by decide +kernel) (by decide +kernel)
theorem q_503 : (Jvm.Cond.methodLink "MatchingGraph" (252 : Nat) ({ cls := "java/lang/Integer", name := "numberOfTrailingZeros", desc := "(I)I" } : Jvm.MethodName)) ∈ WS := ws_tin 503 (by decide +kernel) (by decide +kernel)
theorem q_505 : (Jvm.Cond.methodLink "MatchingGraph" (312 : Nat) ({ cls := "MatchingGraph", name := "firstMate", desc := "(I)I" } : Jvm.MethodName)) ∈ WS := ws_tin 505 (by decide +kernel) (by decide +kernel)
theorem q_506 : (Jvm.Cond.instanceMethod ({ cls := "MatchingGraph", name := "firstMate", desc := "(I)I" } : Jvm.MethodName)) ∈ WS := ws_tin 506 (by decide +kernel) (by decide +kernel)
theorem q_507 : (Jvm.Cond.selects "MatchingGraph" ({ cls := "MatchingGraph", name := "firstMate", desc := "(I)I" } : Jvm.MethodName) ({ cls := "MatchingGraph", name := "firstMate", desc := "(I)I" } : Jvm.MethodName)) ∈ WS := ws_tin 507 (by decide +kernel) (by decide +kernel)
theorem q_508 : (Jvm.Cond.code ({ cls := "MatchingGraph", name := "firstMate", desc := "(I)I" } : Jvm.MethodName) prog_1_method_21_code (2 : Nat) (Option.some Jvm.ClassFile.FieldType.int)) ∈ WS := ws_tin 508 (by decide +kernel) (by decide +kernel)
theorem q_509 : (Jvm.Cond.methodLink "MatchingGraph" (315 : Nat) ({ cls := "MatchingGraph", name := "reach", desc := "(IZ)I" } : Jvm.MethodName)) ∈ WS := ws_tin 509 (by decide +kernel) (by decide +kernel)
theorem q_510 : (Jvm.Cond.instanceMethod ({ cls := "MatchingGraph", name := "reach", desc := "(IZ)I" } : Jvm.MethodName)) ∈ WS := ws_tin 510 (by decide +kernel) (by decide +kernel)
theorem q_511 : (Jvm.Cond.selects "MatchingGraph" ({ cls := "MatchingGraph", name := "reach", desc := "(IZ)I" } : Jvm.MethodName) ({ cls := "MatchingGraph", name := "reach", desc := "(IZ)I" } : Jvm.MethodName)) ∈ WS := ws_tin 511 (by decide +kernel) (by decide +kernel)
theorem q_512 : (Jvm.Cond.code ({ cls := "MatchingGraph", name := "reach", desc := "(IZ)I" } : Jvm.MethodName) prog_1_method_19_code (3 : Nat) (Option.some Jvm.ClassFile.FieldType.int)) ∈ WS := ws_tin 512 (by decide +kernel) (by decide +kernel)
theorem q_513 : (Jvm.Cond.methodLink "MatchingGraph" (187 : Nat) ({ cls := "MatchingGraph$Paths", name := "findEnds", desc := "(I)V" } : Jvm.MethodName)) ∈ WS := ws_tin 513 (by decide +kernel) (by decide +kernel)
theorem q_514 : (Jvm.Cond.instanceMethod ({ cls := "MatchingGraph$Paths", name := "findEnds", desc := "(I)V" } : Jvm.MethodName)) ∈ WS := ws_tin 514 (by decide +kernel) (by decide +kernel)
theorem q_515 : (Jvm.Cond.selects "MatchingGraph$Paths" ({ cls := "MatchingGraph$Paths", name := "findEnds", desc := "(I)V" } : Jvm.MethodName) ({ cls := "MatchingGraph$Paths", name := "findEnds", desc := "(I)V" } : Jvm.MethodName)) ∈ WS := ws_tin 515 (by decide +kernel) (by decide +kernel)
theorem q_516 : (Jvm.Cond.code ({ cls := "MatchingGraph$Paths", name := "findEnds", desc := "(I)V" } : Jvm.MethodName) prog_7_method_3_code (4 : Nat) (Option.none : Option Jvm.ClassFile.FieldType)) ∈ WS := ws_tin 516 (by decide +kernel) (by decide +kernel)
theorem q_517 : (Jvm.Cond.methodLink "MatchingGraph$Paths" (55 : Nat) ({ cls := "MatchingGraph$Paths", name := "followFrom", desc := "(III)V" } : Jvm.MethodName)) ∈ WS := ws_tin 517 (by decide +kernel) (by decide +kernel)
theorem q_519 : (Jvm.Cond.instanceMethod ({ cls := "MatchingGraph$Paths", name := "followFrom", desc := "(III)V" } : Jvm.MethodName)) ∈ WS := ws_tin 519 (by decide +kernel) (by decide +kernel)
theorem q_520 : (Jvm.Cond.code ({ cls := "MatchingGraph$Paths", name := "followFrom", desc := "(III)V" } : Jvm.MethodName) prog_7_method_4_code (6 : Nat) (Option.none : Option Jvm.ClassFile.FieldType)) ∈ WS := ws_tin 520 (by decide +kernel) (by decide +kernel)
theorem q_521 : (Jvm.Cond.methodLink "MatchingGraph" (318 : Nat) ({ cls := "MatchingGraph", name := "way", desc := "(I)I" } : Jvm.MethodName)) ∈ WS := ws_tin 521 (by decide +kernel) (by decide +kernel)
theorem q_522 : (Jvm.Cond.instanceMethod ({ cls := "MatchingGraph", name := "way", desc := "(I)I" } : Jvm.MethodName)) ∈ WS := ws_tin 522 (by decide +kernel) (by decide +kernel)
theorem q_523 : (Jvm.Cond.selects "MatchingGraph" ({ cls := "MatchingGraph", name := "way", desc := "(I)I" } : Jvm.MethodName) ({ cls := "MatchingGraph", name := "way", desc := "(I)I" } : Jvm.MethodName)) ∈ WS := ws_tin 523 (by decide +kernel) (by decide +kernel)
theorem q_524 : (Jvm.Cond.code ({ cls := "MatchingGraph", name := "way", desc := "(I)I" } : Jvm.MethodName) prog_1_method_17_code (2 : Nat) (Option.some Jvm.ClassFile.FieldType.int)) ∈ WS := ws_tin 524 (by decide +kernel) (by decide +kernel)
theorem q_525 : (Jvm.Cond.methodLink "MatchingGraph" (141 : Nat) ({ cls := "MatchingGraph", name := "requireExposed", desc := "(I)V" } : Jvm.MethodName)) ∈ WS := ws_tin 525 (by decide +kernel) (by decide +kernel)
theorem q_527 : (Jvm.Cond.instanceMethod ({ cls := "MatchingGraph", name := "requireExposed", desc := "(I)V" } : Jvm.MethodName)) ∈ WS := ws_tin 527 (by decide +kernel) (by decide +kernel)
theorem q_528 : (Jvm.Cond.code ({ cls := "MatchingGraph", name := "requireExposed", desc := "(I)V" } : Jvm.MethodName) prog_1_method_41_code (2 : Nat) (Option.none : Option Jvm.ClassFile.FieldType)) ∈ WS := ws_tin 528 (by decide +kernel) (by decide +kernel)
theorem q_529 : (Jvm.Cond.classLink "MatchingGraph" (105 : Nat) "java/lang/IllegalStateException") ∈ WS := ws_tin 529 (by decide +kernel) (by decide +kernel)
theorem q_530 : (Jvm.Cond.instantiable "java/lang/IllegalStateException" (6 : Nat)) ∈ WS := ws_tin 530 (by decide +kernel) (by decide +kernel)
theorem q_532 : (Jvm.Cond.selects "java/lang/IllegalStateException" ({ cls := "java/lang/Throwable", name := "fillInStackTrace", desc := "(I)Ljava/lang/Throwable;" } : Jvm.MethodName) ({ cls := "java/lang/Throwable", name := "fillInStackTrace", desc := "(I)Ljava/lang/Throwable;" } : Jvm.MethodName)) ∈ WS := ws_tin 532 (by decide +kernel) (by decide +kernel)
theorem q_533 : (Jvm.Cond.lays "java/lang/IllegalStateException" "java/lang/Throwable" "cause" "Ljava/lang/Throwable;") ∈ WS := ws_tin 533 (by decide +kernel) (by decide +kernel)
theorem q_534 : (Jvm.Cond.lays "java/lang/IllegalStateException" "java/lang/Throwable" "stackTrace" "[Ljava/lang/StackTraceElement;") ∈ WS := ws_tin 534 (by decide +kernel) (by decide +kernel)
theorem q_535 : (Jvm.Cond.lays "java/lang/IllegalStateException" "java/lang/Throwable" "suppressedExceptions" "Ljava/util/List;") ∈ WS := ws_tin 535 (by decide +kernel) (by decide +kernel)
theorem q_536 : (Jvm.Cond.lays "java/lang/IllegalStateException" "java/lang/Throwable" "detailMessage" "Ljava/lang/String;") ∈ WS := ws_tin 536 (by decide +kernel) (by decide +kernel)
theorem q_537 : (Jvm.Cond.lays "java/lang/IllegalStateException" "java/lang/Throwable" "backtrace" "Ljava/lang/Object;") ∈ WS := ws_tin 537 (by decide +kernel) (by decide +kernel)
theorem q_539 : (Jvm.Cond.methodLink "MatchingGraph" (109 : Nat) ({ cls := "java/lang/IllegalStateException", name := "<init>", desc := "(Ljava/lang/String;)V" } : Jvm.MethodName)) ∈ WS := ws_tin 539 (by decide +kernel) (by decide +kernel)
theorem q_540 : (Jvm.Cond.instanceMethod ({ cls := "java/lang/IllegalStateException", name := "<init>", desc := "(Ljava/lang/String;)V" } : Jvm.MethodName)) ∈ WS := ws_tin 540 (by decide +kernel) (by decide +kernel)
theorem q_541 : (Jvm.Cond.code ({ cls := "java/lang/IllegalStateException", name := "<init>", desc := "(Ljava/lang/String;)V" } : Jvm.MethodName) prog_12_method_2_code (2 : Nat) (Option.none : Option Jvm.ClassFile.FieldType)) ∈ WS := ws_tin 541 (by decide +kernel) (by decide +kernel)
theorem q_542 : (Jvm.Cond.methodLink "java/lang/IllegalStateException" (7 : Nat) ({ cls := "java/lang/RuntimeException", name := "<init>", desc := "(Ljava/lang/String;)V" } : Jvm.MethodName)) ∈ WS := ws_tin 542 (by decide +kernel) (by decide +kernel)
theorem q_543 : (Jvm.Cond.lays "java/lang/IllegalStateException" "java/lang/Throwable" "depth" "I") ∈ WS := ws_tin 543 (by decide +kernel) (by decide +kernel)
theorem q_545 : (Jvm.Cond.methodLink "MatchingGraph" (292 : Nat) ({ cls := "MatchingGraph", name := "mixPair", desc := "(JII)J" } : Jvm.MethodName)) ∈ WS := ws_tin 545 (by decide +kernel) (by decide +kernel)
theorem q_547 : (Jvm.Cond.instanceMethod ({ cls := "MatchingGraph", name := "mixPair", desc := "(JII)J" } : Jvm.MethodName)) ∈ WS := ws_tin 547 (by decide +kernel) (by decide +kernel)
theorem q_548 : (Jvm.Cond.code ({ cls := "MatchingGraph", name := "mixPair", desc := "(JII)J" } : Jvm.MethodName) prog_1_method_36_code (8 : Nat) (Option.some Jvm.ClassFile.FieldType.long)) ∈ WS := ws_tin 548 (by decide +kernel) (by decide +kernel)
theorem q_549 : (Jvm.Cond.methodLink "MatchingGraph" (321 : Nat) ({ cls := "MatchingGraph", name := "edge", desc := "(III)I" } : Jvm.MethodName)) ∈ WS := ws_tin 549 (by decide +kernel) (by decide +kernel)
theorem q_550 : (Jvm.Cond.instanceMethod ({ cls := "MatchingGraph", name := "edge", desc := "(III)I" } : Jvm.MethodName)) ∈ WS := ws_tin 550 (by decide +kernel) (by decide +kernel)
theorem q_551 : (Jvm.Cond.selects "MatchingGraph" ({ cls := "MatchingGraph", name := "edge", desc := "(III)I" } : Jvm.MethodName) ({ cls := "MatchingGraph", name := "edge", desc := "(III)I" } : Jvm.MethodName)) ∈ WS := ws_tin 551 (by decide +kernel) (by decide +kernel)
theorem q_552 : (Jvm.Cond.code ({ cls := "MatchingGraph", name := "edge", desc := "(III)I" } : Jvm.MethodName) prog_1_method_28_code (4 : Nat) (Option.some Jvm.ClassFile.FieldType.int)) ∈ WS := ws_tin 552 (by decide +kernel) (by decide +kernel)
theorem q_553 : (Jvm.Cond.methodLink "MatchingGraph" (86 : Nat) ({ cls := "MatchingGraph$Graph", name := "joined", desc := "(II)Z" } : Jvm.MethodName)) ∈ WS := ws_tin 553 (by decide +kernel) (by decide +kernel)
theorem q_555 : (Jvm.Cond.methodLink "MatchingGraph" (296 : Nat) ({ cls := "MatchingGraph", name := "proof", desc := "()I" } : Jvm.MethodName)) ∈ WS := ws_tin 555 (by decide +kernel) (by decide +kernel)
theorem q_556 : (Jvm.Cond.methodLink "MatchingGraph" (299 : Nat) ({ cls := "MatchingGraph", name := "oddCycle", desc := "()I" } : Jvm.MethodName)) ∈ WS := ws_tin 556 (by decide +kernel) (by decide +kernel)
theorem q_557 : (Jvm.Cond.methodLink "MatchingGraph" (302 : Nat) ({ cls := "MatchingGraph", name := "difference", desc := "(I)I" } : Jvm.MethodName)) ∈ WS := ws_tin 557 (by decide +kernel) (by decide +kernel)
theorem q_558 : (Jvm.Cond.instanceMethod ({ cls := "MatchingGraph", name := "difference", desc := "(I)I" } : Jvm.MethodName)) ∈ WS := ws_tin 558 (by decide +kernel) (by decide +kernel)
theorem q_559 : (Jvm.Cond.selects "MatchingGraph" ({ cls := "MatchingGraph", name := "difference", desc := "(I)I" } : Jvm.MethodName) ({ cls := "MatchingGraph", name := "difference", desc := "(I)I" } : Jvm.MethodName)) ∈ WS := ws_tin 559 (by decide +kernel) (by decide +kernel)
theorem q_560 : (Jvm.Cond.code ({ cls := "MatchingGraph", name := "difference", desc := "(I)I" } : Jvm.MethodName) prog_1_method_31_code (8 : Nat) (Option.some Jvm.ClassFile.FieldType.int)) ∈ WS := ws_tin 560 (by decide +kernel) (by decide +kernel)
theorem q_562 : (Jvm.Cond.methodLink "MatchingGraph" (272 : Nat) ({ cls := "MatchingGraph", name := "drawDifferences", desc := "(LMatchingGraph$Matching;)V" } : Jvm.MethodName)) ∈ WS := ws_tin 562 (by decide +kernel) (by decide +kernel)
theorem q_564 : (Jvm.Cond.instanceMethod ({ cls := "MatchingGraph", name := "drawDifferences", desc := "(LMatchingGraph$Matching;)V" } : Jvm.MethodName)) ∈ WS := ws_tin 564 (by decide +kernel) (by decide +kernel)
theorem q_565 : (Jvm.Cond.code ({ cls := "MatchingGraph", name := "drawDifferences", desc := "(LMatchingGraph$Matching;)V" } : Jvm.MethodName) prog_1_method_32_code (5 : Nat) (Option.none : Option Jvm.ClassFile.FieldType)) ∈ WS := ws_tin 565 (by decide +kernel) (by decide +kernel)
theorem q_566 : (Jvm.Cond.methodLink "MatchingGraph" (69 : Nat) ({ cls := "MatchingGraph$Graph", name := "clear", desc := "(I)V" } : Jvm.MethodName)) ∈ WS := ws_tin 566 (by decide +kernel) (by decide +kernel)
theorem q_567 : (Jvm.Cond.instanceMethod ({ cls := "MatchingGraph$Graph", name := "clear", desc := "(I)V" } : Jvm.MethodName)) ∈ WS := ws_tin 567 (by decide +kernel) (by decide +kernel)
theorem q_568 : (Jvm.Cond.selects "MatchingGraph$Graph" ({ cls := "MatchingGraph$Graph", name := "clear", desc := "(I)V" } : Jvm.MethodName) ({ cls := "MatchingGraph$Graph", name := "clear", desc := "(I)V" } : Jvm.MethodName)) ∈ WS := ws_tin 568 (by decide +kernel) (by decide +kernel)
theorem q_569 : (Jvm.Cond.code ({ cls := "MatchingGraph$Graph", name := "clear", desc := "(I)V" } : Jvm.MethodName) prog_2_method_2_code (2 : Nat) (Option.none : Option Jvm.ClassFile.FieldType)) ∈ WS := ws_tin 569 (by decide +kernel) (by decide +kernel)
theorem q_570 : (Jvm.Cond.methodLink "MatchingGraph$Graph" (22 : Nat) ({ cls := "java/util/Arrays", name := "fill", desc := "([II)V" } : Jvm.MethodName)) ∈ WS := ws_tin 570 (by decide +kernel) (by decide +kernel)
theorem q_571 : (Jvm.Cond.methodLink "MatchingGraph" (90 : Nat) ({ cls := "MatchingGraph$Graph", name := "put", desc := "(IIZ)V" } : Jvm.MethodName)) ∈ WS := ws_tin 571 (by decide +kernel) (by decide +kernel)
theorem q_572 : (Jvm.Cond.instanceMethod ({ cls := "MatchingGraph$Graph", name := "put", desc := "(IIZ)V" } : Jvm.MethodName)) ∈ WS := ws_tin 572 (by decide +kernel) (by decide +kernel)
theorem q_573 : (Jvm.Cond.selects "MatchingGraph$Graph" ({ cls := "MatchingGraph$Graph", name := "put", desc := "(IIZ)V" } : Jvm.MethodName) ({ cls := "MatchingGraph$Graph", name := "put", desc := "(IIZ)V" } : Jvm.MethodName)) ∈ WS := ws_tin 573 (by decide +kernel) (by decide +kernel)
theorem q_574 : (Jvm.Cond.code ({ cls := "MatchingGraph$Graph", name := "put", desc := "(IIZ)V" } : Jvm.MethodName) prog_2_method_6_code (4 : Nat) (Option.none : Option Jvm.ClassFile.FieldType)) ∈ WS := ws_tin 574 (by decide +kernel) (by decide +kernel)
theorem q_575 : (Jvm.Cond.methodLink "MatchingGraph$Graph" (34 : Nat) ({ cls := "MatchingGraph$Graph", name := "joined", desc := "(II)Z" } : Jvm.MethodName)) ∈ WS := ws_tin 575 (by decide +kernel) (by decide +kernel)
theorem q_576 : (Jvm.Cond.methodLink "MatchingGraph" (276 : Nat) ({ cls := "MatchingGraph$Graph", name := "hasNoEnd", desc := "(I)Z" } : Jvm.MethodName)) ∈ WS := ws_tin 576 (by decide +kernel) (by decide +kernel)
theorem q_577 : (Jvm.Cond.instanceMethod ({ cls := "MatchingGraph$Graph", name := "hasNoEnd", desc := "(I)Z" } : Jvm.MethodName)) ∈ WS := ws_tin 577 (by decide +kernel) (by decide +kernel)
theorem q_578 : (Jvm.Cond.selects "MatchingGraph$Graph" ({ cls := "MatchingGraph$Graph", name := "hasNoEnd", desc := "(I)Z" } : Jvm.MethodName) ({ cls := "MatchingGraph$Graph", name := "hasNoEnd", desc := "(I)Z" } : Jvm.MethodName)) ∈ WS := ws_tin 578 (by decide +kernel) (by decide +kernel)
theorem q_579 : (Jvm.Cond.code ({ cls := "MatchingGraph$Graph", name := "hasNoEnd", desc := "(I)Z" } : Jvm.MethodName) prog_2_method_12_code (3 : Nat) (Option.some Jvm.ClassFile.FieldType.boolean)) ∈ WS := ws_tin 579 (by decide +kernel) (by decide +kernel)
theorem q_580 : (Jvm.Cond.methodLink "MatchingGraph" (305 : Nat) ({ cls := "MatchingGraph", name := "mixInput", desc := "(J)J" } : Jvm.MethodName)) ∈ WS := ws_tin 580 (by decide +kernel) (by decide +kernel)
theorem q_582 : (Jvm.Cond.instanceMethod ({ cls := "MatchingGraph", name := "mixInput", desc := "(J)J" } : Jvm.MethodName)) ∈ WS := ws_tin 582 (by decide +kernel) (by decide +kernel)
theorem q_583 : (Jvm.Cond.code ({ cls := "MatchingGraph", name := "mixInput", desc := "(J)J" } : Jvm.MethodName) prog_1_method_37_code (6 : Nat) (Option.some Jvm.ClassFile.FieldType.long)) ∈ WS := ws_tin 583 (by decide +kernel) (by decide +kernel)
theorem q_584 : (Jvm.Cond.methodLink "MatchingGraphLaw" (79 : Nat) ({ cls := "MatchingGraphLaw", name := "begin", desc := "(LMatchingGraph;I[J)I" } : Jvm.MethodName)) ∈ WS := ws_tin 584 (by decide +kernel) (by decide +kernel)
theorem q_585 : (Jvm.Cond.static ({ cls := "MatchingGraphLaw", name := "begin", desc := "(LMatchingGraph;I[J)I" } : Jvm.MethodName)) ∈ WS := ws_tin 585 (by decide +kernel) (by decide +kernel)
theorem q_586 : (Jvm.Cond.codeWith ({ cls := "MatchingGraphLaw", name := "begin", desc := "(LMatchingGraph;I[J)I" } : Jvm.MethodName) method_3_code (4 : Nat) (Option.some Jvm.ClassFile.FieldType.int) [((0 : Nat), (9 : Nat), (12 : Nat), (13 : Nat))]) ∈ WS := ws_tin 586 (by decide +kernel) (by decide +kernel)
theorem q_587 : (Jvm.Cond.classLink "MatchingGraphLaw" (13 : Nat) "java/lang/IllegalArgumentException") ∈ WS := ws_tin 587 (by decide +kernel) (by decide +kernel)
theorem q_588 : (Jvm.Cond.methodLink "MatchingGraphLaw" (7 : Nat) ({ cls := "MatchingGraph", name := "begin", desc := "(I)I" } : Jvm.MethodName)) ∈ WS := ws_tin 588 (by decide +kernel) (by decide +kernel)
theorem q_589 : (Jvm.Cond.instanceMethod ({ cls := "MatchingGraph", name := "begin", desc := "(I)I" } : Jvm.MethodName)) ∈ WS := ws_tin 589 (by decide +kernel) (by decide +kernel)
theorem q_590 : (Jvm.Cond.selects "MatchingGraph" ({ cls := "MatchingGraph", name := "begin", desc := "(I)I" } : Jvm.MethodName) ({ cls := "MatchingGraph", name := "begin", desc := "(I)I" } : Jvm.MethodName)) ∈ WS := ws_tin 590 (by decide +kernel) (by decide +kernel)
theorem q_591 : (Jvm.Cond.code ({ cls := "MatchingGraph", name := "begin", desc := "(I)I" } : Jvm.MethodName) prog_1_method_2_code (3 : Nat) (Option.some Jvm.ClassFile.FieldType.int)) ∈ WS := ws_tin 591 (by decide +kernel) (by decide +kernel)
theorem q_593 : (Jvm.Cond.methodLink "MatchingGraph" (73 : Nat) ({ cls := "MatchingGraph$Matching", name := "clear", desc := "()V" } : Jvm.MethodName)) ∈ WS := ws_tin 593 (by decide +kernel) (by decide +kernel)
theorem q_594 : (Jvm.Cond.methodLink "MatchingGraph" (75 : Nat) ({ cls := "MatchingGraph$History", name := "clear", desc := "()V" } : Jvm.MethodName)) ∈ WS := ws_tin 594 (by decide +kernel) (by decide +kernel)
theorem q_595 : (Jvm.Cond.instanceMethod ({ cls := "MatchingGraph$History", name := "clear", desc := "()V" } : Jvm.MethodName)) ∈ WS := ws_tin 595 (by decide +kernel) (by decide +kernel)
theorem q_596 : (Jvm.Cond.selects "MatchingGraph$History" ({ cls := "MatchingGraph$History", name := "clear", desc := "()V" } : Jvm.MethodName) ({ cls := "MatchingGraph$History", name := "clear", desc := "()V" } : Jvm.MethodName)) ∈ WS := ws_tin 596 (by decide +kernel) (by decide +kernel)
theorem q_597 : (Jvm.Cond.code ({ cls := "MatchingGraph$History", name := "clear", desc := "()V" } : Jvm.MethodName) prog_3_method_2_code (1 : Nat) (Option.none : Option Jvm.ClassFile.FieldType)) ∈ WS := ws_tin 597 (by decide +kernel) (by decide +kernel)
theorem q_598 : (Jvm.Cond.methodLink "MatchingGraphLaw" (88 : Nat) ({ cls := "MatchingGraphLaw", name := "setEdge", desc := "(LMatchingGraph;IIZ[J)I" } : Jvm.MethodName)) ∈ WS := ws_tin 598 (by decide +kernel) (by decide +kernel)
theorem q_599 : (Jvm.Cond.static ({ cls := "MatchingGraphLaw", name := "setEdge", desc := "(LMatchingGraph;IIZ[J)I" } : Jvm.MethodName)) ∈ WS := ws_tin 599 (by decide +kernel) (by decide +kernel)
theorem q_600 : (Jvm.Cond.codeWith ({ cls := "MatchingGraphLaw", name := "setEdge", desc := "(LMatchingGraph;IIZ[J)I" } : Jvm.MethodName) method_4_code (6 : Nat) (Option.some Jvm.ClassFile.FieldType.int) [((0 : Nat), (12 : Nat), (15 : Nat), (19 : Nat)), ((0 : Nat), (12 : Nat), (19 : Nat), (13 : Nat))]) ∈ WS := ws_tin 600 (by decide +kernel) (by decide +kernel)
theorem q_601 : (Jvm.Cond.classLink "MatchingGraphLaw" (19 : Nat) "java/lang/IndexOutOfBoundsException") ∈ WS := ws_tin 601 (by decide +kernel) (by decide +kernel)
theorem q_602 : (Jvm.Cond.methodLink "MatchingGraphLaw" (15 : Nat) ({ cls := "MatchingGraph", name := "setEdge", desc := "(IIZ)I" } : Jvm.MethodName)) ∈ WS := ws_tin 602 (by decide +kernel) (by decide +kernel)
theorem q_603 : (Jvm.Cond.instanceMethod ({ cls := "MatchingGraph", name := "setEdge", desc := "(IIZ)I" } : Jvm.MethodName)) ∈ WS := ws_tin 603 (by decide +kernel) (by decide +kernel)
theorem q_604 : (Jvm.Cond.selects "MatchingGraph" ({ cls := "MatchingGraph", name := "setEdge", desc := "(IIZ)I" } : Jvm.MethodName) ({ cls := "MatchingGraph", name := "setEdge", desc := "(IIZ)I" } : Jvm.MethodName)) ∈ WS := ws_tin 604 (by decide +kernel) (by decide +kernel)
theorem q_605 : (Jvm.Cond.code ({ cls := "MatchingGraph", name := "setEdge", desc := "(IIZ)I" } : Jvm.MethodName) prog_1_method_3_code (5 : Nat) (Option.some Jvm.ClassFile.FieldType.int)) ∈ WS := ws_tin 605 (by decide +kernel) (by decide +kernel)
theorem q_606 : (Jvm.Cond.methodLink "MatchingGraph" (79 : Nat) ({ cls := "MatchingGraph", name := "requireDifferent", desc := "(II)V" } : Jvm.MethodName)) ∈ WS := ws_tin 606 (by decide +kernel) (by decide +kernel)
theorem q_607 : (Jvm.Cond.static ({ cls := "MatchingGraph", name := "requireDifferent", desc := "(II)V" } : Jvm.MethodName)) ∈ WS := ws_tin 607 (by decide +kernel) (by decide +kernel)
theorem q_608 : (Jvm.Cond.code ({ cls := "MatchingGraph", name := "requireDifferent", desc := "(II)V" } : Jvm.MethodName) prog_1_method_40_code (2 : Nat) (Option.none : Option Jvm.ClassFile.FieldType)) ∈ WS := ws_tin 608 (by decide +kernel) (by decide +kernel)
theorem q_610 : (Jvm.Cond.methodLink "MatchingGraph" (97 : Nat) ({ cls := "MatchingGraph$Matching", name := "part", desc := "(I)V" } : Jvm.MethodName)) ∈ WS := ws_tin 610 (by decide +kernel) (by decide +kernel)
theorem q_611 : (Jvm.Cond.instanceMethod ({ cls := "MatchingGraph$Matching", name := "part", desc := "(I)V" } : Jvm.MethodName)) ∈ WS := ws_tin 611 (by decide +kernel) (by decide +kernel)
theorem q_612 : (Jvm.Cond.selects "MatchingGraph$Matching" ({ cls := "MatchingGraph$Matching", name := "part", desc := "(I)V" } : Jvm.MethodName) ({ cls := "MatchingGraph$Matching", name := "part", desc := "(I)V" } : Jvm.MethodName)) ∈ WS := ws_tin 612 (by decide +kernel) (by decide +kernel)
theorem q_613 : (Jvm.Cond.code ({ cls := "MatchingGraph$Matching", name := "part", desc := "(I)V" } : Jvm.MethodName) prog_5_method_7_code (3 : Nat) (Option.none : Option Jvm.ClassFile.FieldType)) ∈ WS := ws_tin 613 (by decide +kernel) (by decide +kernel)
theorem q_614 : (Jvm.Cond.methodLink "MatchingGraphLaw" (92 : Nat) ({ cls := "MatchingGraphLaw", name := "append", desc := "(LMatchingGraph;I[J)I" } : Jvm.MethodName)) ∈ WS := ws_tin 614 (by decide +kernel) (by decide +kernel)
theorem q_615 : (Jvm.Cond.static ({ cls := "MatchingGraphLaw", name := "append", desc := "(LMatchingGraph;I[J)I" } : Jvm.MethodName)) ∈ WS := ws_tin 615 (by decide +kernel) (by decide +kernel)
theorem q_616 : (Jvm.Cond.codeWith ({ cls := "MatchingGraphLaw", name := "append", desc := "(LMatchingGraph;I[J)I" } : Jvm.MethodName) method_5_code (4 : Nat) (Option.some Jvm.ClassFile.FieldType.int) [((0 : Nat), (9 : Nat), (12 : Nat), (13 : Nat)), ((0 : Nat), (9 : Nat), (15 : Nat), (24 : Nat))]) ∈ WS := ws_tin 616 (by decide +kernel) (by decide +kernel)
theorem q_617 : (Jvm.Cond.classLink "MatchingGraphLaw" (24 : Nat) "java/lang/IllegalStateException") ∈ WS := ws_tin 617 (by decide +kernel) (by decide +kernel)
theorem q_618 : (Jvm.Cond.methodLink "MatchingGraphLaw" (21 : Nat) ({ cls := "MatchingGraph", name := "append", desc := "(I)I" } : Jvm.MethodName)) ∈ WS := ws_tin 618 (by decide +kernel) (by decide +kernel)
theorem q_619 : (Jvm.Cond.instanceMethod ({ cls := "MatchingGraph", name := "append", desc := "(I)I" } : Jvm.MethodName)) ∈ WS := ws_tin 619 (by decide +kernel) (by decide +kernel)
theorem q_620 : (Jvm.Cond.selects "MatchingGraph" ({ cls := "MatchingGraph", name := "append", desc := "(I)I" } : Jvm.MethodName) ({ cls := "MatchingGraph", name := "append", desc := "(I)I" } : Jvm.MethodName)) ∈ WS := ws_tin 620 (by decide +kernel) (by decide +kernel)
theorem q_621 : (Jvm.Cond.code ({ cls := "MatchingGraph", name := "append", desc := "(I)I" } : Jvm.MethodName) prog_1_method_4_code (2 : Nat) (Option.some Jvm.ClassFile.FieldType.int)) ∈ WS := ws_tin 621 (by decide +kernel) (by decide +kernel)
theorem q_624 : (Jvm.Cond.methodLink "MatchingGraph" (110 : Nat) ({ cls := "MatchingGraph$Input", name := "add", desc := "(I)V" } : Jvm.MethodName)) ∈ WS := ws_tin 624 (by decide +kernel) (by decide +kernel)
theorem q_625 : (Jvm.Cond.instanceMethod ({ cls := "MatchingGraph$Input", name := "add", desc := "(I)V" } : Jvm.MethodName)) ∈ WS := ws_tin 625 (by decide +kernel) (by decide +kernel)
theorem q_626 : (Jvm.Cond.selects "MatchingGraph$Input" ({ cls := "MatchingGraph$Input", name := "add", desc := "(I)V" } : Jvm.MethodName) ({ cls := "MatchingGraph$Input", name := "add", desc := "(I)V" } : Jvm.MethodName)) ∈ WS := ws_tin 626 (by decide +kernel) (by decide +kernel)
theorem q_627 : (Jvm.Cond.code ({ cls := "MatchingGraph$Input", name := "add", desc := "(I)V" } : Jvm.MethodName) prog_4_method_2_code (2 : Nat) (Option.none : Option Jvm.ClassFile.FieldType)) ∈ WS := ws_tin 627 (by decide +kernel) (by decide +kernel)
theorem q_628 : (Jvm.Cond.methodLink "MatchingGraphLaw" (103 : Nat) ({ cls := "MatchingGraphLaw", name := "load", desc := "(LMatchingGraph;[J)I" } : Jvm.MethodName)) ∈ WS := ws_tin 628 (by decide +kernel) (by decide +kernel)
theorem q_629 : (Jvm.Cond.static ({ cls := "MatchingGraphLaw", name := "load", desc := "(LMatchingGraph;[J)I" } : Jvm.MethodName)) ∈ WS := ws_tin 629 (by decide +kernel) (by decide +kernel)
theorem q_630 : (Jvm.Cond.codeWith ({ cls := "MatchingGraphLaw", name := "load", desc := "(LMatchingGraph;[J)I" } : Jvm.MethodName) method_6_code (3 : Nat) (Option.some Jvm.ClassFile.FieldType.int) [((0 : Nat), (8 : Nat), (11 : Nat), (13 : Nat))]) ∈ WS := ws_tin 630 (by decide +kernel) (by decide +kernel)
theorem q_631 : (Jvm.Cond.methodLink "MatchingGraphLaw" (26 : Nat) ({ cls := "MatchingGraph", name := "load", desc := "()I" } : Jvm.MethodName)) ∈ WS := ws_tin 631 (by decide +kernel) (by decide +kernel)
theorem q_632 : (Jvm.Cond.instanceMethod ({ cls := "MatchingGraph", name := "load", desc := "()I" } : Jvm.MethodName)) ∈ WS := ws_tin 632 (by decide +kernel) (by decide +kernel)
theorem q_633 : (Jvm.Cond.selects "MatchingGraph" ({ cls := "MatchingGraph", name := "load", desc := "()I" } : Jvm.MethodName) ({ cls := "MatchingGraph", name := "load", desc := "()I" } : Jvm.MethodName)) ∈ WS := ws_tin 633 (by decide +kernel) (by decide +kernel)
theorem q_634 : (Jvm.Cond.code ({ cls := "MatchingGraph", name := "load", desc := "()I" } : Jvm.MethodName) prog_1_method_7_code (4 : Nat) (Option.some Jvm.ClassFile.FieldType.int)) ∈ WS := ws_tin 634 (by decide +kernel) (by decide +kernel)
theorem q_635 : (Jvm.Cond.methodLink "MatchingGraph" (117 : Nat) ({ cls := "MatchingGraph$Input", name := "isComplete", desc := "(I)Z" } : Jvm.MethodName)) ∈ WS := ws_tin 635 (by decide +kernel) (by decide +kernel)
theorem q_636 : (Jvm.Cond.instanceMethod ({ cls := "MatchingGraph$Input", name := "isComplete", desc := "(I)Z" } : Jvm.MethodName)) ∈ WS := ws_tin 636 (by decide +kernel) (by decide +kernel)
theorem q_637 : (Jvm.Cond.selects "MatchingGraph$Input" ({ cls := "MatchingGraph$Input", name := "isComplete", desc := "(I)Z" } : Jvm.MethodName) ({ cls := "MatchingGraph$Input", name := "isComplete", desc := "(I)Z" } : Jvm.MethodName)) ∈ WS := ws_tin 637 (by decide +kernel) (by decide +kernel)
theorem q_638 : (Jvm.Cond.code ({ cls := "MatchingGraph$Input", name := "isComplete", desc := "(I)Z" } : Jvm.MethodName) prog_4_method_4_code (4 : Nat) (Option.some Jvm.ClassFile.FieldType.boolean)) ∈ WS := ws_tin 638 (by decide +kernel) (by decide +kernel)
theorem q_640 : (Jvm.Cond.methodLink "MatchingGraph" (123 : Nat) ({ cls := "MatchingGraph$Input", name := "isMarked", desc := "(I)Z" } : Jvm.MethodName)) ∈ WS := ws_tin 640 (by decide +kernel) (by decide +kernel)
theorem q_641 : (Jvm.Cond.instanceMethod ({ cls := "MatchingGraph$Input", name := "isMarked", desc := "(I)Z" } : Jvm.MethodName)) ∈ WS := ws_tin 641 (by decide +kernel) (by decide +kernel)
theorem q_642 : (Jvm.Cond.selects "MatchingGraph$Input" ({ cls := "MatchingGraph$Input", name := "isMarked", desc := "(I)Z" } : Jvm.MethodName) ({ cls := "MatchingGraph$Input", name := "isMarked", desc := "(I)Z" } : Jvm.MethodName)) ∈ WS := ws_tin 642 (by decide +kernel) (by decide +kernel)
theorem q_643 : (Jvm.Cond.code ({ cls := "MatchingGraph$Input", name := "isMarked", desc := "(I)Z" } : Jvm.MethodName) prog_4_method_7_code (2 : Nat) (Option.some Jvm.ClassFile.FieldType.boolean)) ∈ WS := ws_tin 643 (by decide +kernel) (by decide +kernel)
theorem q_644 : (Jvm.Cond.methodLink "MatchingGraph" (126 : Nat) ({ cls := "MatchingGraph$Input", name := "nodeAt", desc := "(I)I" } : Jvm.MethodName)) ∈ WS := ws_tin 644 (by decide +kernel) (by decide +kernel)
theorem q_645 : (Jvm.Cond.methodLink "MatchingGraph" (129 : Nat) ({ cls := "MatchingGraph", name := "addRead", desc := "(IIZ)I" } : Jvm.MethodName)) ∈ WS := ws_tin 645 (by decide +kernel) (by decide +kernel)
theorem q_647 : (Jvm.Cond.instanceMethod ({ cls := "MatchingGraph", name := "addRead", desc := "(IIZ)I" } : Jvm.MethodName)) ∈ WS := ws_tin 647 (by decide +kernel) (by decide +kernel)
theorem q_648 : (Jvm.Cond.code ({ cls := "MatchingGraph", name := "addRead", desc := "(IIZ)I" } : Jvm.MethodName) prog_1_method_8_code (5 : Nat) (Option.some Jvm.ClassFile.FieldType.int)) ∈ WS := ws_tin 648 (by decide +kernel) (by decide +kernel)
theorem q_649 : (Jvm.Cond.methodLink "MatchingGraph" (136 : Nat) ({ cls := "MatchingGraph$Matching", name := "join", desc := "(II)V" } : Jvm.MethodName)) ∈ WS := ws_tin 649 (by decide +kernel) (by decide +kernel)
theorem q_650 : (Jvm.Cond.methodLink "MatchingGraphLaw" (107 : Nat) ({ cls := "MatchingGraphLaw", name := "match", desc := "(LMatchingGraph;II[J)I" } : Jvm.MethodName)) ∈ WS := ws_tin 650 (by decide +kernel) (by decide +kernel)
theorem q_651 : (Jvm.Cond.static ({ cls := "MatchingGraphLaw", name := "match", desc := "(LMatchingGraph;II[J)I" } : Jvm.MethodName)) ∈ WS := ws_tin 651 (by decide +kernel) (by decide +kernel)
theorem q_652 : (Jvm.Cond.codeWith ({ cls := "MatchingGraphLaw", name := "match", desc := "(LMatchingGraph;II[J)I" } : Jvm.MethodName) method_7_code (5 : Nat) (Option.some Jvm.ClassFile.FieldType.int) [((0 : Nat), (10 : Nat), (13 : Nat), (19 : Nat)), ((0 : Nat), (10 : Nat), (17 : Nat), (24 : Nat))]) ∈ WS := ws_tin 652 (by decide +kernel) (by decide +kernel)
theorem q_653 : (Jvm.Cond.methodLink "MatchingGraphLaw" (30 : Nat) ({ cls := "MatchingGraph", name := "match", desc := "(II)I" } : Jvm.MethodName)) ∈ WS := ws_tin 653 (by decide +kernel) (by decide +kernel)
theorem q_654 : (Jvm.Cond.instanceMethod ({ cls := "MatchingGraph", name := "match", desc := "(II)I" } : Jvm.MethodName)) ∈ WS := ws_tin 654 (by decide +kernel) (by decide +kernel)
theorem q_655 : (Jvm.Cond.selects "MatchingGraph" ({ cls := "MatchingGraph", name := "match", desc := "(II)I" } : Jvm.MethodName) ({ cls := "MatchingGraph", name := "match", desc := "(II)I" } : Jvm.MethodName)) ∈ WS := ws_tin 655 (by decide +kernel) (by decide +kernel)
theorem q_656 : (Jvm.Cond.code ({ cls := "MatchingGraph", name := "match", desc := "(II)I" } : Jvm.MethodName) prog_1_method_9_code (3 : Nat) (Option.some Jvm.ClassFile.FieldType.int)) ∈ WS := ws_tin 656 (by decide +kernel) (by decide +kernel)
theorem q_658 : (Jvm.Cond.methodLink "MatchingGraphLaw" (111 : Nat) ({ cls := "MatchingGraphLaw", name := "unmatch", desc := "(LMatchingGraph;I[J)I" } : Jvm.MethodName)) ∈ WS := ws_tin 658 (by decide +kernel) (by decide +kernel)
theorem q_659 : (Jvm.Cond.static ({ cls := "MatchingGraphLaw", name := "unmatch", desc := "(LMatchingGraph;I[J)I" } : Jvm.MethodName)) ∈ WS := ws_tin 659 (by decide +kernel) (by decide +kernel)
theorem q_660 : (Jvm.Cond.codeWith ({ cls := "MatchingGraphLaw", name := "unmatch", desc := "(LMatchingGraph;I[J)I" } : Jvm.MethodName) method_8_code (4 : Nat) (Option.some Jvm.ClassFile.FieldType.int) [((0 : Nat), (9 : Nat), (12 : Nat), (19 : Nat)), ((0 : Nat), (9 : Nat), (15 : Nat), (24 : Nat))]) ∈ WS := ws_tin 660 (by decide +kernel) (by decide +kernel)
theorem q_661 : (Jvm.Cond.methodLink "MatchingGraphLaw" (34 : Nat) ({ cls := "MatchingGraph", name := "unmatch", desc := "(I)I" } : Jvm.MethodName)) ∈ WS := ws_tin 661 (by decide +kernel) (by decide +kernel)
theorem q_662 : (Jvm.Cond.instanceMethod ({ cls := "MatchingGraph", name := "unmatch", desc := "(I)I" } : Jvm.MethodName)) ∈ WS := ws_tin 662 (by decide +kernel) (by decide +kernel)
theorem q_663 : (Jvm.Cond.selects "MatchingGraph" ({ cls := "MatchingGraph", name := "unmatch", desc := "(I)I" } : Jvm.MethodName) ({ cls := "MatchingGraph", name := "unmatch", desc := "(I)I" } : Jvm.MethodName)) ∈ WS := ws_tin 663 (by decide +kernel) (by decide +kernel)
theorem q_664 : (Jvm.Cond.code ({ cls := "MatchingGraph", name := "unmatch", desc := "(I)I" } : Jvm.MethodName) prog_1_method_10_code (3 : Nat) (Option.some Jvm.ClassFile.FieldType.int)) ∈ WS := ws_tin 664 (by decide +kernel) (by decide +kernel)
theorem q_666 : (Jvm.Cond.methodLink "MatchingGraphLaw" (114 : Nat) ({ cls := "MatchingGraphLaw", name := "augment", desc := "(LMatchingGraph;I[J)I" } : Jvm.MethodName)) ∈ WS := ws_tin 666 (by decide +kernel) (by decide +kernel)
theorem q_667 : (Jvm.Cond.static ({ cls := "MatchingGraphLaw", name := "augment", desc := "(LMatchingGraph;I[J)I" } : Jvm.MethodName)) ∈ WS := ws_tin 667 (by decide +kernel) (by decide +kernel)
theorem q_668 : (Jvm.Cond.codeWith ({ cls := "MatchingGraphLaw", name := "augment", desc := "(LMatchingGraph;I[J)I" } : Jvm.MethodName) method_9_code (4 : Nat) (Option.some Jvm.ClassFile.FieldType.int) [((0 : Nat), (9 : Nat), (12 : Nat), (19 : Nat)), ((0 : Nat), (9 : Nat), (15 : Nat), (24 : Nat))]) ∈ WS := ws_tin 668 (by decide +kernel) (by decide +kernel)
theorem q_669 : (Jvm.Cond.methodLink "MatchingGraphLaw" (37 : Nat) ({ cls := "MatchingGraph", name := "augment", desc := "(I)I" } : Jvm.MethodName)) ∈ WS := ws_tin 669 (by decide +kernel) (by decide +kernel)
theorem q_670 : (Jvm.Cond.instanceMethod ({ cls := "MatchingGraph", name := "augment", desc := "(I)I" } : Jvm.MethodName)) ∈ WS := ws_tin 670 (by decide +kernel) (by decide +kernel)
theorem q_671 : (Jvm.Cond.selects "MatchingGraph" ({ cls := "MatchingGraph", name := "augment", desc := "(I)I" } : Jvm.MethodName) ({ cls := "MatchingGraph", name := "augment", desc := "(I)I" } : Jvm.MethodName)) ∈ WS := ws_tin 671 (by decide +kernel) (by decide +kernel)
theorem q_672 : (Jvm.Cond.code ({ cls := "MatchingGraph", name := "augment", desc := "(I)I" } : Jvm.MethodName) prog_1_method_11_code (2 : Nat) (Option.some Jvm.ClassFile.FieldType.int)) ∈ WS := ws_tin 672 (by decide +kernel) (by decide +kernel)
theorem q_673 : (Jvm.Cond.methodLink "MatchingGraphLaw" (125 : Nat) ({ cls := "MatchingGraphLaw", name := "undo", desc := "(LMatchingGraph;[J)I" } : Jvm.MethodName)) ∈ WS := ws_tin 673 (by decide +kernel) (by decide +kernel)
theorem q_674 : (Jvm.Cond.static ({ cls := "MatchingGraphLaw", name := "undo", desc := "(LMatchingGraph;[J)I" } : Jvm.MethodName)) ∈ WS := ws_tin 674 (by decide +kernel) (by decide +kernel)
theorem q_675 : (Jvm.Cond.codeWith ({ cls := "MatchingGraphLaw", name := "undo", desc := "(LMatchingGraph;[J)I" } : Jvm.MethodName) method_10_code (3 : Nat) (Option.some Jvm.ClassFile.FieldType.int) [((0 : Nat), (8 : Nat), (11 : Nat), (24 : Nat))]) ∈ WS := ws_tin 675 (by decide +kernel) (by decide +kernel)
theorem q_676 : (Jvm.Cond.methodLink "MatchingGraphLaw" (40 : Nat) ({ cls := "MatchingGraph", name := "undo", desc := "()I" } : Jvm.MethodName)) ∈ WS := ws_tin 676 (by decide +kernel) (by decide +kernel)
theorem q_677 : (Jvm.Cond.instanceMethod ({ cls := "MatchingGraph", name := "undo", desc := "()I" } : Jvm.MethodName)) ∈ WS := ws_tin 677 (by decide +kernel) (by decide +kernel)
theorem q_678 : (Jvm.Cond.selects "MatchingGraph" ({ cls := "MatchingGraph", name := "undo", desc := "()I" } : Jvm.MethodName) ({ cls := "MatchingGraph", name := "undo", desc := "()I" } : Jvm.MethodName)) ∈ WS := ws_tin 678 (by decide +kernel) (by decide +kernel)
theorem q_679 : (Jvm.Cond.code ({ cls := "MatchingGraph", name := "undo", desc := "()I" } : Jvm.MethodName) prog_1_method_16_code (1 : Nat) (Option.some Jvm.ClassFile.FieldType.int)) ∈ WS := ws_tin 679 (by decide +kernel) (by decide +kernel)
theorem q_681 : (Jvm.Cond.methodLink "MatchingGraph" (184 : Nat) ({ cls := "MatchingGraph$History", name := "restore", desc := "(LMatchingGraph$Graph;LMatchingGraph$Matching;)V" } : Jvm.MethodName)) ∈ WS := ws_tin 681 (by decide +kernel) (by decide +kernel)
theorem q_682 : (Jvm.Cond.instanceMethod ({ cls := "MatchingGraph$History", name := "restore", desc := "(LMatchingGraph$Graph;LMatchingGraph$Matching;)V" } : Jvm.MethodName)) ∈ WS := ws_tin 682 (by decide +kernel) (by decide +kernel)
theorem q_683 : (Jvm.Cond.selects "MatchingGraph$History" ({ cls := "MatchingGraph$History", name := "restore", desc := "(LMatchingGraph$Graph;LMatchingGraph$Matching;)V" } : Jvm.MethodName) ({ cls := "MatchingGraph$History", name := "restore", desc := "(LMatchingGraph$Graph;LMatchingGraph$Matching;)V" } : Jvm.MethodName)) ∈ WS := ws_tin 683 (by decide +kernel) (by decide +kernel)
theorem q_684 : (Jvm.Cond.code ({ cls := "MatchingGraph$History", name := "restore", desc := "(LMatchingGraph$Graph;LMatchingGraph$Matching;)V" } : Jvm.MethodName) prog_3_method_4_code (3 : Nat) (Option.none : Option Jvm.ClassFile.FieldType)) ∈ WS := ws_tin 684 (by decide +kernel) (by decide +kernel)
theorem q_685 : (Jvm.Cond.methodLink "MatchingGraph$History" (49 : Nat) ({ cls := "MatchingGraph$Graph", name := "copyFrom", desc := "([I)V" } : Jvm.MethodName)) ∈ WS := ws_tin 685 (by decide +kernel) (by decide +kernel)
theorem q_686 : (Jvm.Cond.instanceMethod ({ cls := "MatchingGraph$Graph", name := "copyFrom", desc := "([I)V" } : Jvm.MethodName)) ∈ WS := ws_tin 686 (by decide +kernel) (by decide +kernel)
theorem q_687 : (Jvm.Cond.selects "MatchingGraph$Graph" ({ cls := "MatchingGraph$Graph", name := "copyFrom", desc := "([I)V" } : Jvm.MethodName) ({ cls := "MatchingGraph$Graph", name := "copyFrom", desc := "([I)V" } : Jvm.MethodName)) ∈ WS := ws_tin 687 (by decide +kernel) (by decide +kernel)
theorem q_688 : (Jvm.Cond.code ({ cls := "MatchingGraph$Graph", name := "copyFrom", desc := "([I)V" } : Jvm.MethodName) prog_2_method_3_code (2 : Nat) (Option.none : Option Jvm.ClassFile.FieldType)) ∈ WS := ws_tin 688 (by decide +kernel) (by decide +kernel)
theorem q_689 : (Jvm.Cond.methodLink "MatchingGraph$Graph" (28 : Nat) ({ cls := "java/lang/System", name := "arraycopy", desc := "(Ljava/lang/Object;ILjava/lang/Object;II)V" } : Jvm.MethodName)) ∈ WS := ws_tin 689 (by decide +kernel) (by decide +kernel)
theorem q_690 : (Jvm.Cond.methodLink "MatchingGraph$History" (53 : Nat) ({ cls := "MatchingGraph$Matching", name := "copyFrom", desc := "([I)V" } : Jvm.MethodName)) ∈ WS := ws_tin 690 (by decide +kernel) (by decide +kernel)
theorem q_691 : (Jvm.Cond.methodLink "MatchingGraphLaw" (128 : Nat) ({ cls := "MatchingGraphLaw", name := "way", desc := "(LMatchingGraph;I[J)I" } : Jvm.MethodName)) ∈ WS := ws_tin 691 (by decide +kernel) (by decide +kernel)
theorem q_692 : (Jvm.Cond.static ({ cls := "MatchingGraphLaw", name := "way", desc := "(LMatchingGraph;I[J)I" } : Jvm.MethodName)) ∈ WS := ws_tin 692 (by decide +kernel) (by decide +kernel)
theorem q_693 : (Jvm.Cond.codeWith ({ cls := "MatchingGraphLaw", name := "way", desc := "(LMatchingGraph;I[J)I" } : Jvm.MethodName) method_11_code (4 : Nat) (Option.some Jvm.ClassFile.FieldType.int) [((0 : Nat), (9 : Nat), (12 : Nat), (19 : Nat)), ((0 : Nat), (9 : Nat), (15 : Nat), (24 : Nat))]) ∈ WS := ws_tin 693 (by decide +kernel) (by decide +kernel)
theorem q_694 : (Jvm.Cond.methodLink "MatchingGraphLaw" (43 : Nat) ({ cls := "MatchingGraph", name := "way", desc := "(I)I" } : Jvm.MethodName)) ∈ WS := ws_tin 694 (by decide +kernel) (by decide +kernel)
theorem q_695 : (Jvm.Cond.methodLink "MatchingGraphLaw" (131 : Nat) ({ cls := "MatchingGraphLaw", name := "wayNode", desc := "(LMatchingGraph;II[J)I" } : Jvm.MethodName)) ∈ WS := ws_tin 695 (by decide +kernel) (by decide +kernel)
theorem q_696 : (Jvm.Cond.static ({ cls := "MatchingGraphLaw", name := "wayNode", desc := "(LMatchingGraph;II[J)I" } : Jvm.MethodName)) ∈ WS := ws_tin 696 (by decide +kernel) (by decide +kernel)
theorem q_697 : (Jvm.Cond.codeWith ({ cls := "MatchingGraphLaw", name := "wayNode", desc := "(LMatchingGraph;II[J)I" } : Jvm.MethodName) method_12_code (5 : Nat) (Option.some Jvm.ClassFile.FieldType.int) [((0 : Nat), (10 : Nat), (13 : Nat), (19 : Nat)), ((0 : Nat), (10 : Nat), (17 : Nat), (24 : Nat))]) ∈ WS := ws_tin 697 (by decide +kernel) (by decide +kernel)
theorem q_698 : (Jvm.Cond.methodLink "MatchingGraphLaw" (46 : Nat) ({ cls := "MatchingGraph", name := "wayNode", desc := "(II)I" } : Jvm.MethodName)) ∈ WS := ws_tin 698 (by decide +kernel) (by decide +kernel)
theorem q_699 : (Jvm.Cond.instanceMethod ({ cls := "MatchingGraph", name := "wayNode", desc := "(II)I" } : Jvm.MethodName)) ∈ WS := ws_tin 699 (by decide +kernel) (by decide +kernel)
theorem q_700 : (Jvm.Cond.selects "MatchingGraph" ({ cls := "MatchingGraph", name := "wayNode", desc := "(II)I" } : Jvm.MethodName) ({ cls := "MatchingGraph", name := "wayNode", desc := "(II)I" } : Jvm.MethodName)) ∈ WS := ws_tin 700 (by decide +kernel) (by decide +kernel)
theorem q_701 : (Jvm.Cond.code ({ cls := "MatchingGraph", name := "wayNode", desc := "(II)I" } : Jvm.MethodName) prog_1_method_18_code (4 : Nat) (Option.some Jvm.ClassFile.FieldType.int)) ∈ WS := ws_tin 701 (by decide +kernel) (by decide +kernel)
theorem q_702 : (Jvm.Cond.methodLink "MatchingGraphLaw" (134 : Nat) ({ cls := "MatchingGraphLaw", name := "reach", desc := "(LMatchingGraph;IZ[J)I" } : Jvm.MethodName)) ∈ WS := ws_tin 702 (by decide +kernel) (by decide +kernel)
theorem q_703 : (Jvm.Cond.static ({ cls := "MatchingGraphLaw", name := "reach", desc := "(LMatchingGraph;IZ[J)I" } : Jvm.MethodName)) ∈ WS := ws_tin 703 (by decide +kernel) (by decide +kernel)
theorem q_704 : (Jvm.Cond.codeWith ({ cls := "MatchingGraphLaw", name := "reach", desc := "(LMatchingGraph;IZ[J)I" } : Jvm.MethodName) method_13_code (5 : Nat) (Option.some Jvm.ClassFile.FieldType.int) [((0 : Nat), (10 : Nat), (13 : Nat), (19 : Nat))]) ∈ WS := ws_tin 704 (by decide +kernel) (by decide +kernel)
theorem q_705 : (Jvm.Cond.methodLink "MatchingGraphLaw" (49 : Nat) ({ cls := "MatchingGraph", name := "reach", desc := "(IZ)I" } : Jvm.MethodName)) ∈ WS := ws_tin 705 (by decide +kernel) (by decide +kernel)
theorem q_706 : (Jvm.Cond.methodLink "MatchingGraphLaw" (142 : Nat) ({ cls := "MatchingGraphLaw", name := "firstMate", desc := "(LMatchingGraph;I[J)I" } : Jvm.MethodName)) ∈ WS := ws_tin 706 (by decide +kernel) (by decide +kernel)
theorem q_707 : (Jvm.Cond.static ({ cls := "MatchingGraphLaw", name := "firstMate", desc := "(LMatchingGraph;I[J)I" } : Jvm.MethodName)) ∈ WS := ws_tin 707 (by decide +kernel) (by decide +kernel)
theorem q_708 : (Jvm.Cond.codeWith ({ cls := "MatchingGraphLaw", name := "firstMate", desc := "(LMatchingGraph;I[J)I" } : Jvm.MethodName) method_14_code (4 : Nat) (Option.some Jvm.ClassFile.FieldType.int) [((0 : Nat), (9 : Nat), (12 : Nat), (19 : Nat))]) ∈ WS := ws_tin 708 (by decide +kernel) (by decide +kernel)
theorem q_709 : (Jvm.Cond.methodLink "MatchingGraphLaw" (53 : Nat) ({ cls := "MatchingGraph", name := "firstMate", desc := "(I)I" } : Jvm.MethodName)) ∈ WS := ws_tin 709 (by decide +kernel) (by decide +kernel)
theorem q_710 : (Jvm.Cond.methodLink "MatchingGraphLaw" (149 : Nat) ({ cls := "MatchingGraphLaw", name := "components", desc := "(LMatchingGraph;IZ[J)I" } : Jvm.MethodName)) ∈ WS := ws_tin 710 (by decide +kernel) (by decide +kernel)
theorem q_711 : (Jvm.Cond.static ({ cls := "MatchingGraphLaw", name := "components", desc := "(LMatchingGraph;IZ[J)I" } : Jvm.MethodName)) ∈ WS := ws_tin 711 (by decide +kernel) (by decide +kernel)
theorem q_712 : (Jvm.Cond.codeWith ({ cls := "MatchingGraphLaw", name := "components", desc := "(LMatchingGraph;IZ[J)I" } : Jvm.MethodName) method_15_code (5 : Nat) (Option.some Jvm.ClassFile.FieldType.int) [((0 : Nat), (10 : Nat), (13 : Nat), (13 : Nat))]) ∈ WS := ws_tin 712 (by decide +kernel) (by decide +kernel)
theorem q_713 : (Jvm.Cond.methodLink "MatchingGraphLaw" (56 : Nat) ({ cls := "MatchingGraph", name := "components", desc := "(IZ)I" } : Jvm.MethodName)) ∈ WS := ws_tin 713 (by decide +kernel) (by decide +kernel)
theorem q_714 : (Jvm.Cond.instanceMethod ({ cls := "MatchingGraph", name := "components", desc := "(IZ)I" } : Jvm.MethodName)) ∈ WS := ws_tin 714 (by decide +kernel) (by decide +kernel)
theorem q_715 : (Jvm.Cond.selects "MatchingGraph" ({ cls := "MatchingGraph", name := "components", desc := "(IZ)I" } : Jvm.MethodName) ({ cls := "MatchingGraph", name := "components", desc := "(IZ)I" } : Jvm.MethodName)) ∈ WS := ws_tin 715 (by decide +kernel) (by decide +kernel)
theorem q_716 : (Jvm.Cond.code ({ cls := "MatchingGraph", name := "components", desc := "(IZ)I" } : Jvm.MethodName) prog_1_method_24_code (3 : Nat) (Option.some Jvm.ClassFile.FieldType.int)) ∈ WS := ws_tin 716 (by decide +kernel) (by decide +kernel)
theorem q_718 : (Jvm.Cond.methodLink "MatchingGraphLaw" (152 : Nat) ({ cls := "MatchingGraphLaw", name := "ifChanged", desc := "(LMatchingGraph;II[J)I" } : Jvm.MethodName)) ∈ WS := ws_tin 718 (by decide +kernel) (by decide +kernel)
theorem q_719 : (Jvm.Cond.static ({ cls := "MatchingGraphLaw", name := "ifChanged", desc := "(LMatchingGraph;II[J)I" } : Jvm.MethodName)) ∈ WS := ws_tin 719 (by decide +kernel) (by decide +kernel)
theorem q_720 : (Jvm.Cond.codeWith ({ cls := "MatchingGraphLaw", name := "ifChanged", desc := "(LMatchingGraph;II[J)I" } : Jvm.MethodName) method_16_code (5 : Nat) (Option.some Jvm.ClassFile.FieldType.int) [((0 : Nat), (10 : Nat), (13 : Nat), (19 : Nat)), ((0 : Nat), (10 : Nat), (17 : Nat), (13 : Nat))]) ∈ WS := ws_tin 720 (by decide +kernel) (by decide +kernel)
theorem q_721 : (Jvm.Cond.methodLink "MatchingGraphLaw" (59 : Nat) ({ cls := "MatchingGraph", name := "ifChanged", desc := "(II)I" } : Jvm.MethodName)) ∈ WS := ws_tin 721 (by decide +kernel) (by decide +kernel)
theorem q_722 : (Jvm.Cond.instanceMethod ({ cls := "MatchingGraph", name := "ifChanged", desc := "(II)I" } : Jvm.MethodName)) ∈ WS := ws_tin 722 (by decide +kernel) (by decide +kernel)
theorem q_723 : (Jvm.Cond.selects "MatchingGraph" ({ cls := "MatchingGraph", name := "ifChanged", desc := "(II)I" } : Jvm.MethodName) ({ cls := "MatchingGraph", name := "ifChanged", desc := "(II)I" } : Jvm.MethodName)) ∈ WS := ws_tin 723 (by decide +kernel) (by decide +kernel)
theorem q_724 : (Jvm.Cond.code ({ cls := "MatchingGraph", name := "ifChanged", desc := "(II)I" } : Jvm.MethodName) prog_1_method_25_code (4 : Nat) (Option.some Jvm.ClassFile.FieldType.int)) ∈ WS := ws_tin 724 (by decide +kernel) (by decide +kernel)
theorem q_725 : (Jvm.Cond.methodLink "MatchingGraph" (232 : Nat) ({ cls := "MatchingGraph$Maxima", name := "numberWithout", desc := "(II)I" } : Jvm.MethodName)) ∈ WS := ws_tin 725 (by decide +kernel) (by decide +kernel)
theorem q_726 : (Jvm.Cond.instanceMethod ({ cls := "MatchingGraph$Maxima", name := "numberWithout", desc := "(II)I" } : Jvm.MethodName)) ∈ WS := ws_tin 726 (by decide +kernel) (by decide +kernel)
theorem q_727 : (Jvm.Cond.selects "MatchingGraph$Maxima" ({ cls := "MatchingGraph$Maxima", name := "numberWithout", desc := "(II)I" } : Jvm.MethodName) ({ cls := "MatchingGraph$Maxima", name := "numberWithout", desc := "(II)I" } : Jvm.MethodName)) ∈ WS := ws_tin 727 (by decide +kernel) (by decide +kernel)
theorem q_728 : (Jvm.Cond.code ({ cls := "MatchingGraph$Maxima", name := "numberWithout", desc := "(II)I" } : Jvm.MethodName) prog_6_method_9_code (4 : Nat) (Option.some Jvm.ClassFile.FieldType.int)) ∈ WS := ws_tin 728 (by decide +kernel) (by decide +kernel)
theorem q_729 : (Jvm.Cond.methodLink "MatchingGraph" (235 : Nat) ({ cls := "java/lang/Math", name := "max", desc := "(II)I" } : Jvm.MethodName)) ∈ WS := ws_tin 729 (by decide +kernel) (by decide +kernel)
theorem q_730 : (Jvm.Cond.static ({ cls := "java/lang/Math", name := "max", desc := "(II)I" } : Jvm.MethodName)) ∈ WS := ws_tin 730 (by decide +kernel) (by decide +kernel)
theorem q_731 : (Jvm.Cond.code ({ cls := "java/lang/Math", name := "max", desc := "(II)I" } : Jvm.MethodName) prog_15_method_65_code (2 : Nat) (Option.some Jvm.ClassFile.FieldType.int)) ∈ WS := ws_tin 731 (by decide +kernel) (by decide +kernel)
theorem q_732 : (Jvm.Cond.methodLink "MatchingGraphLaw" (155 : Nat) ({ cls := "MatchingGraphLaw", name := "node", desc := "(LMatchingGraph;II[J)I" } : Jvm.MethodName)) ∈ WS := ws_tin 732 (by decide +kernel) (by decide +kernel)
theorem q_733 : (Jvm.Cond.static ({ cls := "MatchingGraphLaw", name := "node", desc := "(LMatchingGraph;II[J)I" } : Jvm.MethodName)) ∈ WS := ws_tin 733 (by decide +kernel) (by decide +kernel)
theorem q_734 : (Jvm.Cond.codeWith ({ cls := "MatchingGraphLaw", name := "node", desc := "(LMatchingGraph;II[J)I" } : Jvm.MethodName) method_17_code (5 : Nat) (Option.some Jvm.ClassFile.FieldType.int) [((0 : Nat), (10 : Nat), (13 : Nat), (19 : Nat)), ((0 : Nat), (10 : Nat), (17 : Nat), (13 : Nat))]) ∈ WS := ws_tin 734 (by decide +kernel) (by decide +kernel)
theorem q_735 : (Jvm.Cond.methodLink "MatchingGraphLaw" (62 : Nat) ({ cls := "MatchingGraph", name := "node", desc := "(II)I" } : Jvm.MethodName)) ∈ WS := ws_tin 735 (by decide +kernel) (by decide +kernel)
theorem q_736 : (Jvm.Cond.methodLink "MatchingGraphLaw" (158 : Nat) ({ cls := "MatchingGraphLaw", name := "edge", desc := "(LMatchingGraph;III[J)I" } : Jvm.MethodName)) ∈ WS := ws_tin 736 (by decide +kernel) (by decide +kernel)
theorem q_737 : (Jvm.Cond.static ({ cls := "MatchingGraphLaw", name := "edge", desc := "(LMatchingGraph;III[J)I" } : Jvm.MethodName)) ∈ WS := ws_tin 737 (by decide +kernel) (by decide +kernel)
theorem q_738 : (Jvm.Cond.codeWith ({ cls := "MatchingGraphLaw", name := "edge", desc := "(LMatchingGraph;III[J)I" } : Jvm.MethodName) method_18_code (6 : Nat) (Option.some Jvm.ClassFile.FieldType.int) [((0 : Nat), (12 : Nat), (15 : Nat), (19 : Nat)), ((0 : Nat), (12 : Nat), (19 : Nat), (13 : Nat))]) ∈ WS := ws_tin 738 (by decide +kernel) (by decide +kernel)
theorem q_739 : (Jvm.Cond.methodLink "MatchingGraphLaw" (65 : Nat) ({ cls := "MatchingGraph", name := "edge", desc := "(III)I" } : Jvm.MethodName)) ∈ WS := ws_tin 739 (by decide +kernel) (by decide +kernel)
theorem q_740 : (Jvm.Cond.methodLink "MatchingGraphLaw" (162 : Nat) ({ cls := "MatchingGraphLaw", name := "count", desc := "(LMatchingGraph;I[J)I" } : Jvm.MethodName)) ∈ WS := ws_tin 740 (by decide +kernel) (by decide +kernel)
theorem q_741 : (Jvm.Cond.static ({ cls := "MatchingGraphLaw", name := "count", desc := "(LMatchingGraph;I[J)I" } : Jvm.MethodName)) ∈ WS := ws_tin 741 (by decide +kernel) (by decide +kernel)
theorem q_742 : (Jvm.Cond.codeWith ({ cls := "MatchingGraphLaw", name := "count", desc := "(LMatchingGraph;I[J)I" } : Jvm.MethodName) method_19_code (4 : Nat) (Option.some Jvm.ClassFile.FieldType.int) [((0 : Nat), (9 : Nat), (12 : Nat), (13 : Nat))]) ∈ WS := ws_tin 742 (by decide +kernel) (by decide +kernel)
theorem q_743 : (Jvm.Cond.methodLink "MatchingGraphLaw" (69 : Nat) ({ cls := "MatchingGraph", name := "count", desc := "(I)I" } : Jvm.MethodName)) ∈ WS := ws_tin 743 (by decide +kernel) (by decide +kernel)
theorem q_744 : (Jvm.Cond.methodLink "MatchingGraphLaw" (165 : Nat) ({ cls := "MatchingGraphLaw", name := "difference", desc := "(LMatchingGraph;I[J)I" } : Jvm.MethodName)) ∈ WS := ws_tin 744 (by decide +kernel) (by decide +kernel)
theorem q_745 : (Jvm.Cond.static ({ cls := "MatchingGraphLaw", name := "difference", desc := "(LMatchingGraph;I[J)I" } : Jvm.MethodName)) ∈ WS := ws_tin 745 (by decide +kernel) (by decide +kernel)
theorem q_746 : (Jvm.Cond.codeWith ({ cls := "MatchingGraphLaw", name := "difference", desc := "(LMatchingGraph;I[J)I" } : Jvm.MethodName) method_20_code (4 : Nat) (Option.some Jvm.ClassFile.FieldType.int) [((0 : Nat), (9 : Nat), (12 : Nat), (13 : Nat))]) ∈ WS := ws_tin 746 (by decide +kernel) (by decide +kernel)
theorem q_747 : (Jvm.Cond.methodLink "MatchingGraphLaw" (72 : Nat) ({ cls := "MatchingGraph", name := "difference", desc := "(I)I" } : Jvm.MethodName)) ∈ WS := ws_tin 747 (by decide +kernel) (by decide +kernel)
theorem q_748 : (Jvm.Cond.classLink "MatchingGraphLaw" (76 : Nat) "MatchingGraphModel") ∈ WS := ws_tin 748 (by decide +kernel) (by decide +kernel)
theorem q_749 : (Jvm.Cond.instantiable "MatchingGraphModel" (19 : Nat)) ∈ WS := ws_tin 749 (by decide +kernel) (by decide +kernel)
theorem q_750 : (Jvm.Cond.methodLink "MatchingGraphLaw" (78 : Nat) ({ cls := "MatchingGraphModel", name := "<init>", desc := "()V" } : Jvm.MethodName)) ∈ WS := ws_tin 750 (by decide +kernel) (by decide +kernel)
theorem q_751 : (Jvm.Cond.instanceMethod ({ cls := "MatchingGraphModel", name := "<init>", desc := "()V" } : Jvm.MethodName)) ∈ WS := ws_tin 751 (by decide +kernel) (by decide +kernel)
theorem q_752 : (Jvm.Cond.code ({ cls := "MatchingGraphModel", name := "<init>", desc := "()V" } : Jvm.MethodName) prog_9_method_1_code (1 : Nat) (Option.none : Option Jvm.ClassFile.FieldType)) ∈ WS := ws_tin 752 (by decide +kernel) (by decide +kernel)
theorem q_753 : (Jvm.Cond.methodLink "MatchingGraphModel" (1 : Nat) ({ cls := "java/lang/Object", name := "<init>", desc := "()V" } : Jvm.MethodName)) ∈ WS := ws_tin 753 (by decide +kernel) (by decide +kernel)
theorem q_754 : (Jvm.Cond.methodLink "MatchingGraphModel" (44 : Nat) ({ cls := "MatchingGraphModel", name := "clearAll", desc := "()V" } : Jvm.MethodName)) ∈ WS := ws_tin 754 (by decide +kernel) (by decide +kernel)
theorem q_756 : (Jvm.Cond.instanceMethod ({ cls := "MatchingGraphModel", name := "clearAll", desc := "()V" } : Jvm.MethodName)) ∈ WS := ws_tin 756 (by decide +kernel) (by decide +kernel)
theorem q_757 : (Jvm.Cond.code ({ cls := "MatchingGraphModel", name := "clearAll", desc := "()V" } : Jvm.MethodName) prog_9_method_8_code (2 : Nat) (Option.none : Option Jvm.ClassFile.FieldType)) ∈ WS := ws_tin 757 (by decide +kernel) (by decide +kernel)
theorem q_758 : (Jvm.Cond.fieldLink "MatchingGraphModel" (47 : Nat) "MatchingGraphModel" "thrown" "I") ∈ WS := ws_tin 758 (by decide +kernel) (by decide +kernel)
theorem q_759 : (Jvm.Cond.fieldLink "MatchingGraphModel" (7 : Nat) "MatchingGraphModel" "n" "I") ∈ WS := ws_tin 759 (by decide +kernel) (by decide +kernel)
theorem q_760 : (Jvm.Cond.fieldLink "MatchingGraphModel" (13 : Nat) "MatchingGraphModel" "adjacent" "[I") ∈ WS := ws_tin 760 (by decide +kernel) (by decide +kernel)
theorem q_761 : (Jvm.Cond.fieldLink "MatchingGraphModel" (17 : Nat) "MatchingGraphModel" "mate" "[I") ∈ WS := ws_tin 761 (by decide +kernel) (by decide +kernel)
theorem q_762 : (Jvm.Cond.fieldLink "MatchingGraphModel" (54 : Nat) "MatchingGraphModel" "kept" "I") ∈ WS := ws_tin 762 (by decide +kernel) (by decide +kernel)
theorem q_763 : (Jvm.Cond.fieldLink "MatchingGraphModel" (20 : Nat) "MatchingGraphModel" "old" "[I") ∈ WS := ws_tin 763 (by decide +kernel) (by decide +kernel)
theorem q_764 : (Jvm.Cond.fieldLink "MatchingGraphModel" (118 : Nat) "MatchingGraphModel" "length" "I") ∈ WS := ws_tin 764 (by decide +kernel) (by decide +kernel)
theorem q_765 : (Jvm.Cond.fieldLink "MatchingGraphModel" (23 : Nat) "MatchingGraphModel" "buffer" "[I") ∈ WS := ws_tin 765 (by decide +kernel) (by decide +kernel)
theorem q_766 : (Jvm.Cond.fieldLink "MatchingGraphModel" (26 : Nat) "MatchingGraphModel" "best" "[I") ∈ WS := ws_tin 766 (by decide +kernel) (by decide +kernel)
theorem q_767 : (Jvm.Cond.fieldLink "MatchingGraphModel" (29 : Nat) "MatchingGraphModel" "ways" "[I") ∈ WS := ws_tin 767 (by decide +kernel) (by decide +kernel)
theorem q_768 : (Jvm.Cond.fieldLink "MatchingGraphModel" (32 : Nat) "MatchingGraphModel" "first" "[I") ∈ WS := ws_tin 768 (by decide +kernel) (by decide +kernel)
theorem q_769 : (Jvm.Cond.fieldLink "MatchingGraphModel" (35 : Nat) "MatchingGraphModel" "path" "[I") ∈ WS := ws_tin 769 (by decide +kernel) (by decide +kernel)
theorem q_770 : (Jvm.Cond.fieldLink "MatchingGraphModel" (38 : Nat) "MatchingGraphModel" "next" "[I") ∈ WS := ws_tin 770 (by decide +kernel) (by decide +kernel)
theorem q_771 : (Jvm.Cond.fieldLink "MatchingGraphModel" (84 : Nat) "MatchingGraphModel" "oddReach" "I") ∈ WS := ws_tin 771 (by decide +kernel) (by decide +kernel)
theorem q_772 : (Jvm.Cond.fieldLink "MatchingGraphModel" (87 : Nat) "MatchingGraphModel" "evenReach" "I") ∈ WS := ws_tin 772 (by decide +kernel) (by decide +kernel)
theorem q_773 : (Jvm.Cond.fieldLink "MatchingGraphModel" (121 : Nat) "MatchingGraphModel" "place" "I") ∈ WS := ws_tin 773 (by decide +kernel) (by decide +kernel)
theorem q_774 : (Jvm.Cond.fieldLink "MatchingGraphModel" (124 : Nat) "MatchingGraphModel" "edges" "I") ∈ WS := ws_tin 774 (by decide +kernel) (by decide +kernel)
theorem q_775 : (Jvm.Cond.fieldLink "MatchingGraphModel" (41 : Nat) "MatchingGraphModel" "edge" "[I") ∈ WS := ws_tin 775 (by decide +kernel) (by decide +kernel)
theorem q_776 : (Jvm.Cond.fieldLink "MatchingGraphModel" (205 : Nat) "MatchingGraphModel" "hash" "J") ∈ WS := ws_tin 776 (by decide +kernel) (by decide +kernel)
theorem q_777 : (Jvm.Cond.lays "MatchingGraphModel" "MatchingGraphModel" "thrown" "I") ∈ WS := ws_tin 777 (by decide +kernel) (by decide +kernel)
theorem q_779 : (Jvm.Cond.lays "MatchingGraphModel" "MatchingGraphModel" "n" "I") ∈ WS := ws_tin 779 (by decide +kernel) (by decide +kernel)
theorem q_781 : (Jvm.Cond.laysFinal "MatchingGraphModel" "MatchingGraphModel" "adjacent" "[I") ∈ WS := ws_tin 781 (by decide +kernel) (by decide +kernel)
theorem q_783 : (Jvm.Cond.laysFinal "MatchingGraphModel" "MatchingGraphModel" "mate" "[I") ∈ WS := ws_tin 783 (by decide +kernel) (by decide +kernel)
theorem q_785 : (Jvm.Cond.lays "MatchingGraphModel" "MatchingGraphModel" "kept" "I") ∈ WS := ws_tin 785 (by decide +kernel) (by decide +kernel)
theorem q_787 : (Jvm.Cond.laysFinal "MatchingGraphModel" "MatchingGraphModel" "old" "[I") ∈ WS := ws_tin 787 (by decide +kernel) (by decide +kernel)
theorem q_789 : (Jvm.Cond.lays "MatchingGraphModel" "MatchingGraphModel" "length" "I") ∈ WS := ws_tin 789 (by decide +kernel) (by decide +kernel)
theorem q_791 : (Jvm.Cond.laysFinal "MatchingGraphModel" "MatchingGraphModel" "buffer" "[I") ∈ WS := ws_tin 791 (by decide +kernel) (by decide +kernel)
theorem q_793 : (Jvm.Cond.laysFinal "MatchingGraphModel" "MatchingGraphModel" "best" "[I") ∈ WS := ws_tin 793 (by decide +kernel) (by decide +kernel)
theorem q_795 : (Jvm.Cond.laysFinal "MatchingGraphModel" "MatchingGraphModel" "ways" "[I") ∈ WS := ws_tin 795 (by decide +kernel) (by decide +kernel)
theorem q_797 : (Jvm.Cond.laysFinal "MatchingGraphModel" "MatchingGraphModel" "first" "[I") ∈ WS := ws_tin 797 (by decide +kernel) (by decide +kernel)
theorem q_799 : (Jvm.Cond.laysFinal "MatchingGraphModel" "MatchingGraphModel" "path" "[I") ∈ WS := ws_tin 799 (by decide +kernel) (by decide +kernel)
theorem q_801 : (Jvm.Cond.laysFinal "MatchingGraphModel" "MatchingGraphModel" "next" "[I") ∈ WS := ws_tin 801 (by decide +kernel) (by decide +kernel)
theorem q_803 : (Jvm.Cond.lays "MatchingGraphModel" "MatchingGraphModel" "oddReach" "I") ∈ WS := ws_tin 803 (by decide +kernel) (by decide +kernel)
theorem q_805 : (Jvm.Cond.lays "MatchingGraphModel" "MatchingGraphModel" "evenReach" "I") ∈ WS := ws_tin 805 (by decide +kernel) (by decide +kernel)
theorem q_807 : (Jvm.Cond.lays "MatchingGraphModel" "MatchingGraphModel" "place" "I") ∈ WS := ws_tin 807 (by decide +kernel) (by decide +kernel)
theorem q_809 : (Jvm.Cond.lays "MatchingGraphModel" "MatchingGraphModel" "edges" "I") ∈ WS := ws_tin 809 (by decide +kernel) (by decide +kernel)
theorem q_811 : (Jvm.Cond.laysFinal "MatchingGraphModel" "MatchingGraphModel" "edge" "[I") ∈ WS := ws_tin 811 (by decide +kernel) (by decide +kernel)
theorem q_813 : (Jvm.Cond.lays "MatchingGraphModel" "MatchingGraphModel" "hash" "J") ∈ WS := ws_tin 813 (by decide +kernel) (by decide +kernel)
theorem q_816 : (Jvm.Cond.methodLink "MatchingGraphLaw" (85 : Nat) ({ cls := "MatchingGraphModel", name := "thrown", desc := "()I" } : Jvm.MethodName)) ∈ WS := ws_tin 816 (by decide +kernel) (by decide +kernel)
theorem q_817 : (Jvm.Cond.instanceMethod ({ cls := "MatchingGraphModel", name := "thrown", desc := "()I" } : Jvm.MethodName)) ∈ WS := ws_tin 817 (by decide +kernel) (by decide +kernel)
theorem q_818 : (Jvm.Cond.selects "MatchingGraphModel" ({ cls := "MatchingGraphModel", name := "thrown", desc := "()I" } : Jvm.MethodName) ({ cls := "MatchingGraphModel", name := "thrown", desc := "()I" } : Jvm.MethodName)) ∈ WS := ws_tin 818 (by decide +kernel) (by decide +kernel)
theorem q_819 : (Jvm.Cond.code ({ cls := "MatchingGraphModel", name := "thrown", desc := "()I" } : Jvm.MethodName) prog_9_method_2_code (1 : Nat) (Option.some Jvm.ClassFile.FieldType.int)) ∈ WS := ws_tin 819 (by decide +kernel) (by decide +kernel)
theorem q_820 : (Jvm.Cond.methodLink "MatchingGraphLaw" (84 : Nat) ({ cls := "MatchingGraphModel", name := "begin", desc := "(I)I" } : Jvm.MethodName)) ∈ WS := ws_tin 820 (by decide +kernel) (by decide +kernel)
theorem q_821 : (Jvm.Cond.instanceMethod ({ cls := "MatchingGraphModel", name := "begin", desc := "(I)I" } : Jvm.MethodName)) ∈ WS := ws_tin 821 (by decide +kernel) (by decide +kernel)
theorem q_822 : (Jvm.Cond.selects "MatchingGraphModel" ({ cls := "MatchingGraphModel", name := "begin", desc := "(I)I" } : Jvm.MethodName) ({ cls := "MatchingGraphModel", name := "begin", desc := "(I)I" } : Jvm.MethodName)) ∈ WS := ws_tin 822 (by decide +kernel) (by decide +kernel)
theorem q_823 : (Jvm.Cond.code ({ cls := "MatchingGraphModel", name := "begin", desc := "(I)I" } : Jvm.MethodName) prog_9_method_29_code (3 : Nat) (Option.some Jvm.ClassFile.FieldType.int)) ∈ WS := ws_tin 823 (by decide +kernel) (by decide +kernel)
theorem q_824 : (Jvm.Cond.methodLink "MatchingGraphModel" (50 : Nat) ({ cls := "MatchingGraphModel", name := "within", desc := "(III)Z" } : Jvm.MethodName)) ∈ WS := ws_tin 824 (by decide +kernel) (by decide +kernel)
theorem q_825 : (Jvm.Cond.static ({ cls := "MatchingGraphModel", name := "within", desc := "(III)Z" } : Jvm.MethodName)) ∈ WS := ws_tin 825 (by decide +kernel) (by decide +kernel)
theorem q_826 : (Jvm.Cond.code ({ cls := "MatchingGraphModel", name := "within", desc := "(III)Z" } : Jvm.MethodName) prog_9_method_3_code (3 : Nat) (Option.some Jvm.ClassFile.FieldType.boolean)) ∈ WS := ws_tin 826 (by decide +kernel) (by decide +kernel)
theorem q_827 : (Jvm.Cond.methodLink "MatchingGraphLaw" (91 : Nat) ({ cls := "MatchingGraphModel", name := "setEdge", desc := "(IIZ)I" } : Jvm.MethodName)) ∈ WS := ws_tin 827 (by decide +kernel) (by decide +kernel)
theorem q_828 : (Jvm.Cond.instanceMethod ({ cls := "MatchingGraphModel", name := "setEdge", desc := "(IIZ)I" } : Jvm.MethodName)) ∈ WS := ws_tin 828 (by decide +kernel) (by decide +kernel)
theorem q_829 : (Jvm.Cond.selects "MatchingGraphModel" ({ cls := "MatchingGraphModel", name := "setEdge", desc := "(IIZ)I" } : Jvm.MethodName) ({ cls := "MatchingGraphModel", name := "setEdge", desc := "(IIZ)I" } : Jvm.MethodName)) ∈ WS := ws_tin 829 (by decide +kernel) (by decide +kernel)
theorem q_830 : (Jvm.Cond.code ({ cls := "MatchingGraphModel", name := "setEdge", desc := "(IIZ)I" } : Jvm.MethodName) prog_9_method_30_code (5 : Nat) (Option.some Jvm.ClassFile.FieldType.int)) ∈ WS := ws_tin 830 (by decide +kernel) (by decide +kernel)
theorem q_831 : (Jvm.Cond.methodLink "MatchingGraphModel" (104 : Nat) ({ cls := "MatchingGraphModel", name := "isNode", desc := "(I)Z" } : Jvm.MethodName)) ∈ WS := ws_tin 831 (by decide +kernel) (by decide +kernel)
theorem q_833 : (Jvm.Cond.instanceMethod ({ cls := "MatchingGraphModel", name := "isNode", desc := "(I)Z" } : Jvm.MethodName)) ∈ WS := ws_tin 833 (by decide +kernel) (by decide +kernel)
theorem q_834 : (Jvm.Cond.code ({ cls := "MatchingGraphModel", name := "isNode", desc := "(I)Z" } : Jvm.MethodName) prog_9_method_6_code (2 : Nat) (Option.some Jvm.ClassFile.FieldType.boolean)) ∈ WS := ws_tin 834 (by decide +kernel) (by decide +kernel)
theorem q_835 : (Jvm.Cond.methodLink "MatchingGraphModel" (108 : Nat) ({ cls := "MatchingGraphModel", name := "keep", desc := "()V" } : Jvm.MethodName)) ∈ WS := ws_tin 835 (by decide +kernel) (by decide +kernel)
theorem q_837 : (Jvm.Cond.instanceMethod ({ cls := "MatchingGraphModel", name := "keep", desc := "()V" } : Jvm.MethodName)) ∈ WS := ws_tin 837 (by decide +kernel) (by decide +kernel)
theorem q_838 : (Jvm.Cond.code ({ cls := "MatchingGraphModel", name := "keep", desc := "()V" } : Jvm.MethodName) prog_9_method_12_code (2 : Nat) (Option.none : Option Jvm.ClassFile.FieldType)) ∈ WS := ws_tin 838 (by decide +kernel) (by decide +kernel)
theorem q_839 : (Jvm.Cond.methodLink "MatchingGraphModel" (61 : Nat) ({ cls := "MatchingGraphModel", name := "has", desc := "(II)Z" } : Jvm.MethodName)) ∈ WS := ws_tin 839 (by decide +kernel) (by decide +kernel)
theorem q_840 : (Jvm.Cond.static ({ cls := "MatchingGraphModel", name := "has", desc := "(II)Z" } : Jvm.MethodName)) ∈ WS := ws_tin 840 (by decide +kernel) (by decide +kernel)
theorem q_841 : (Jvm.Cond.code ({ cls := "MatchingGraphModel", name := "has", desc := "(II)Z" } : Jvm.MethodName) prog_9_method_4_code (2 : Nat) (Option.some Jvm.ClassFile.FieldType.boolean)) ∈ WS := ws_tin 841 (by decide +kernel) (by decide +kernel)
theorem q_842 : (Jvm.Cond.methodLink "MatchingGraphModel" (111 : Nat) ({ cls := "MatchingGraphModel", name := "flip", desc := "(II)V" } : Jvm.MethodName)) ∈ WS := ws_tin 842 (by decide +kernel) (by decide +kernel)
theorem q_844 : (Jvm.Cond.instanceMethod ({ cls := "MatchingGraphModel", name := "flip", desc := "(II)V" } : Jvm.MethodName)) ∈ WS := ws_tin 844 (by decide +kernel) (by decide +kernel)
theorem q_845 : (Jvm.Cond.code ({ cls := "MatchingGraphModel", name := "flip", desc := "(II)V" } : Jvm.MethodName) prog_9_method_9_code (3 : Nat) (Option.none : Option Jvm.ClassFile.FieldType)) ∈ WS := ws_tin 845 (by decide +kernel) (by decide +kernel)
theorem q_846 : (Jvm.Cond.methodLink "MatchingGraphModel" (114 : Nat) ({ cls := "MatchingGraphModel", name := "part", desc := "(I)V" } : Jvm.MethodName)) ∈ WS := ws_tin 846 (by decide +kernel) (by decide +kernel)
theorem q_848 : (Jvm.Cond.instanceMethod ({ cls := "MatchingGraphModel", name := "part", desc := "(I)V" } : Jvm.MethodName)) ∈ WS := ws_tin 848 (by decide +kernel) (by decide +kernel)
theorem q_849 : (Jvm.Cond.code ({ cls := "MatchingGraphModel", name := "part", desc := "(I)V" } : Jvm.MethodName) prog_9_method_11_code (2 : Nat) (Option.none : Option Jvm.ClassFile.FieldType)) ∈ WS := ws_tin 849 (by decide +kernel) (by decide +kernel)
theorem q_850 : (Jvm.Cond.methodLink "MatchingGraphLaw" (94 : Nat) ({ cls := "MatchingGraphModel", name := "append", desc := "(I)I" } : Jvm.MethodName)) ∈ WS := ws_tin 850 (by decide +kernel) (by decide +kernel)
theorem q_851 : (Jvm.Cond.instanceMethod ({ cls := "MatchingGraphModel", name := "append", desc := "(I)I" } : Jvm.MethodName)) ∈ WS := ws_tin 851 (by decide +kernel) (by decide +kernel)
theorem q_852 : (Jvm.Cond.selects "MatchingGraphModel" ({ cls := "MatchingGraphModel", name := "append", desc := "(I)I" } : Jvm.MethodName) ({ cls := "MatchingGraphModel", name := "append", desc := "(I)I" } : Jvm.MethodName)) ∈ WS := ws_tin 852 (by decide +kernel) (by decide +kernel)
theorem q_853 : (Jvm.Cond.code ({ cls := "MatchingGraphModel", name := "append", desc := "(I)I" } : Jvm.MethodName) prog_9_method_31_code (2 : Nat) (Option.some Jvm.ClassFile.FieldType.int)) ∈ WS := ws_tin 853 (by decide +kernel) (by decide +kernel)
theorem q_854 : (Jvm.Cond.methodLink "MatchingGraphLaw" (98 : Nat) ({ cls := "MatchingGraphModel", name := "clearInput", desc := "()I" } : Jvm.MethodName)) ∈ WS := ws_tin 854 (by decide +kernel) (by decide +kernel)
theorem q_855 : (Jvm.Cond.instanceMethod ({ cls := "MatchingGraphModel", name := "clearInput", desc := "()I" } : Jvm.MethodName)) ∈ WS := ws_tin 855 (by decide +kernel) (by decide +kernel)
theorem q_856 : (Jvm.Cond.selects "MatchingGraphModel" ({ cls := "MatchingGraphModel", name := "clearInput", desc := "()I" } : Jvm.MethodName) ({ cls := "MatchingGraphModel", name := "clearInput", desc := "()I" } : Jvm.MethodName)) ∈ WS := ws_tin 856 (by decide +kernel) (by decide +kernel)
theorem q_857 : (Jvm.Cond.code ({ cls := "MatchingGraphModel", name := "clearInput", desc := "()I" } : Jvm.MethodName) prog_9_method_32_code (2 : Nat) (Option.some Jvm.ClassFile.FieldType.int)) ∈ WS := ws_tin 857 (by decide +kernel) (by decide +kernel)
theorem q_858 : (Jvm.Cond.methodLink "MatchingGraphLaw" (102 : Nat) ({ cls := "MatchingGraphModel", name := "firstError", desc := "()I" } : Jvm.MethodName)) ∈ WS := ws_tin 858 (by decide +kernel) (by decide +kernel)
theorem q_859 : (Jvm.Cond.instanceMethod ({ cls := "MatchingGraphModel", name := "firstError", desc := "()I" } : Jvm.MethodName)) ∈ WS := ws_tin 859 (by decide +kernel) (by decide +kernel)
theorem q_860 : (Jvm.Cond.selects "MatchingGraphModel" ({ cls := "MatchingGraphModel", name := "firstError", desc := "()I" } : Jvm.MethodName) ({ cls := "MatchingGraphModel", name := "firstError", desc := "()I" } : Jvm.MethodName)) ∈ WS := ws_tin 860 (by decide +kernel) (by decide +kernel)
theorem q_861 : (Jvm.Cond.code ({ cls := "MatchingGraphModel", name := "firstError", desc := "()I" } : Jvm.MethodName) prog_9_method_35_code (1 : Nat) (Option.some Jvm.ClassFile.FieldType.int)) ∈ WS := ws_tin 861 (by decide +kernel) (by decide +kernel)
theorem q_862 : (Jvm.Cond.methodLink "MatchingGraphModel" (130 : Nat) ({ cls := "MatchingGraphModel", name := "rightLength", desc := "()I" } : Jvm.MethodName)) ∈ WS := ws_tin 862 (by decide +kernel) (by decide +kernel)
theorem q_864 : (Jvm.Cond.instanceMethod ({ cls := "MatchingGraphModel", name := "rightLength", desc := "()I" } : Jvm.MethodName)) ∈ WS := ws_tin 864 (by decide +kernel) (by decide +kernel)
theorem q_865 : (Jvm.Cond.code ({ cls := "MatchingGraphModel", name := "rightLength", desc := "()I" } : Jvm.MethodName) prog_9_method_34_code (2 : Nat) (Option.some Jvm.ClassFile.FieldType.int)) ∈ WS := ws_tin 865 (by decide +kernel) (by decide +kernel)
theorem q_866 : (Jvm.Cond.methodLink "MatchingGraphModel" (127 : Nat) ({ cls := "MatchingGraphModel", name := "takes", desc := "(I)Z" } : Jvm.MethodName)) ∈ WS := ws_tin 866 (by decide +kernel) (by decide +kernel)
theorem q_868 : (Jvm.Cond.instanceMethod ({ cls := "MatchingGraphModel", name := "takes", desc := "(I)Z" } : Jvm.MethodName)) ∈ WS := ws_tin 868 (by decide +kernel) (by decide +kernel)
theorem q_869 : (Jvm.Cond.code ({ cls := "MatchingGraphModel", name := "takes", desc := "(I)Z" } : Jvm.MethodName) prog_9_method_33_code (4 : Nat) (Option.some Jvm.ClassFile.FieldType.boolean)) ∈ WS := ws_tin 869 (by decide +kernel) (by decide +kernel)
theorem q_870 : (Jvm.Cond.methodLink "MatchingGraphLaw" (106 : Nat) ({ cls := "MatchingGraphModel", name := "load", desc := "()I" } : Jvm.MethodName)) ∈ WS := ws_tin 870 (by decide +kernel) (by decide +kernel)
theorem q_871 : (Jvm.Cond.instanceMethod ({ cls := "MatchingGraphModel", name := "load", desc := "()I" } : Jvm.MethodName)) ∈ WS := ws_tin 871 (by decide +kernel) (by decide +kernel)
theorem q_872 : (Jvm.Cond.selects "MatchingGraphModel" ({ cls := "MatchingGraphModel", name := "load", desc := "()I" } : Jvm.MethodName) ({ cls := "MatchingGraphModel", name := "load", desc := "()I" } : Jvm.MethodName)) ∈ WS := ws_tin 872 (by decide +kernel) (by decide +kernel)
theorem q_873 : (Jvm.Cond.code ({ cls := "MatchingGraphModel", name := "load", desc := "()I" } : Jvm.MethodName) prog_9_method_36_code (5 : Nat) (Option.some Jvm.ClassFile.FieldType.int)) ∈ WS := ws_tin 873 (by decide +kernel) (by decide +kernel)
theorem q_874 : (Jvm.Cond.methodLink "MatchingGraphModel" (100 : Nat) ({ cls := "MatchingGraphModel", name := "pair", desc := "(II)V" } : Jvm.MethodName)) ∈ WS := ws_tin 874 (by decide +kernel) (by decide +kernel)
theorem q_876 : (Jvm.Cond.instanceMethod ({ cls := "MatchingGraphModel", name := "pair", desc := "(II)V" } : Jvm.MethodName)) ∈ WS := ws_tin 876 (by decide +kernel) (by decide +kernel)
theorem q_877 : (Jvm.Cond.code ({ cls := "MatchingGraphModel", name := "pair", desc := "(II)V" } : Jvm.MethodName) prog_9_method_10_code (3 : Nat) (Option.none : Option Jvm.ClassFile.FieldType)) ∈ WS := ws_tin 877 (by decide +kernel) (by decide +kernel)
theorem q_878 : (Jvm.Cond.methodLink "MatchingGraphLaw" (110 : Nat) ({ cls := "MatchingGraphModel", name := "match", desc := "(II)I" } : Jvm.MethodName)) ∈ WS := ws_tin 878 (by decide +kernel) (by decide +kernel)
theorem q_879 : (Jvm.Cond.instanceMethod ({ cls := "MatchingGraphModel", name := "match", desc := "(II)I" } : Jvm.MethodName)) ∈ WS := ws_tin 879 (by decide +kernel) (by decide +kernel)
theorem q_880 : (Jvm.Cond.selects "MatchingGraphModel" ({ cls := "MatchingGraphModel", name := "match", desc := "(II)I" } : Jvm.MethodName) ({ cls := "MatchingGraphModel", name := "match", desc := "(II)I" } : Jvm.MethodName)) ∈ WS := ws_tin 880 (by decide +kernel) (by decide +kernel)
theorem q_881 : (Jvm.Cond.code ({ cls := "MatchingGraphModel", name := "match", desc := "(II)I" } : Jvm.MethodName) prog_9_method_38_code (4 : Nat) (Option.some Jvm.ClassFile.FieldType.int)) ∈ WS := ws_tin 881 (by decide +kernel) (by decide +kernel)
theorem q_882 : (Jvm.Cond.methodLink "MatchingGraphModel" (133 : Nat) ({ cls := "MatchingGraphModel", name := "size", desc := "()I" } : Jvm.MethodName)) ∈ WS := ws_tin 882 (by decide +kernel) (by decide +kernel)
theorem q_884 : (Jvm.Cond.instanceMethod ({ cls := "MatchingGraphModel", name := "size", desc := "()I" } : Jvm.MethodName)) ∈ WS := ws_tin 884 (by decide +kernel) (by decide +kernel)
theorem q_885 : (Jvm.Cond.code ({ cls := "MatchingGraphModel", name := "size", desc := "()I" } : Jvm.MethodName) prog_9_method_37_code (3 : Nat) (Option.some Jvm.ClassFile.FieldType.int)) ∈ WS := ws_tin 885 (by decide +kernel) (by decide +kernel)
theorem q_886 : (Jvm.Cond.methodLink "MatchingGraphLaw" (113 : Nat) ({ cls := "MatchingGraphModel", name := "unmatch", desc := "(I)I" } : Jvm.MethodName)) ∈ WS := ws_tin 886 (by decide +kernel) (by decide +kernel)
theorem q_887 : (Jvm.Cond.instanceMethod ({ cls := "MatchingGraphModel", name := "unmatch", desc := "(I)I" } : Jvm.MethodName)) ∈ WS := ws_tin 887 (by decide +kernel) (by decide +kernel)
theorem q_888 : (Jvm.Cond.selects "MatchingGraphModel" ({ cls := "MatchingGraphModel", name := "unmatch", desc := "(I)I" } : Jvm.MethodName) ({ cls := "MatchingGraphModel", name := "unmatch", desc := "(I)I" } : Jvm.MethodName)) ∈ WS := ws_tin 888 (by decide +kernel) (by decide +kernel)
theorem q_889 : (Jvm.Cond.code ({ cls := "MatchingGraphModel", name := "unmatch", desc := "(I)I" } : Jvm.MethodName) prog_9_method_39_code (3 : Nat) (Option.some Jvm.ClassFile.FieldType.int)) ∈ WS := ws_tin 889 (by decide +kernel) (by decide +kernel)
theorem q_890 : (Jvm.Cond.methodLink "MatchingGraphLaw" (116 : Nat) ({ cls := "MatchingGraphModel", name := "augment", desc := "(I)I" } : Jvm.MethodName)) ∈ WS := ws_tin 890 (by decide +kernel) (by decide +kernel)
theorem q_891 : (Jvm.Cond.instanceMethod ({ cls := "MatchingGraphModel", name := "augment", desc := "(I)I" } : Jvm.MethodName)) ∈ WS := ws_tin 891 (by decide +kernel) (by decide +kernel)
theorem q_892 : (Jvm.Cond.selects "MatchingGraphModel" ({ cls := "MatchingGraphModel", name := "augment", desc := "(I)I" } : Jvm.MethodName) ({ cls := "MatchingGraphModel", name := "augment", desc := "(I)I" } : Jvm.MethodName)) ∈ WS := ws_tin 892 (by decide +kernel) (by decide +kernel)
theorem q_893 : (Jvm.Cond.code ({ cls := "MatchingGraphModel", name := "augment", desc := "(I)I" } : Jvm.MethodName) prog_9_method_41_code (2 : Nat) (Option.some Jvm.ClassFile.FieldType.int)) ∈ WS := ws_tin 893 (by decide +kernel) (by decide +kernel)
theorem q_894 : (Jvm.Cond.methodLink "MatchingGraphModel" (136 : Nat) ({ cls := "MatchingGraphModel", name := "exposedFault", desc := "(I)I" } : Jvm.MethodName)) ∈ WS := ws_tin 894 (by decide +kernel) (by decide +kernel)
theorem q_896 : (Jvm.Cond.instanceMethod ({ cls := "MatchingGraphModel", name := "exposedFault", desc := "(I)I" } : Jvm.MethodName)) ∈ WS := ws_tin 896 (by decide +kernel) (by decide +kernel)
theorem q_897 : (Jvm.Cond.code ({ cls := "MatchingGraphModel", name := "exposedFault", desc := "(I)I" } : Jvm.MethodName) prog_9_method_40_code (2 : Nat) (Option.some Jvm.ClassFile.FieldType.int)) ∈ WS := ws_tin 897 (by decide +kernel) (by decide +kernel)
theorem q_898 : (Jvm.Cond.methodLink "MatchingGraphModel" (139 : Nat) ({ cls := "MatchingGraphModel", name := "augmentFrom", desc := "(I)I" } : Jvm.MethodName)) ∈ WS := ws_tin 898 (by decide +kernel) (by decide +kernel)
theorem q_900 : (Jvm.Cond.instanceMethod ({ cls := "MatchingGraphModel", name := "augmentFrom", desc := "(I)I" } : Jvm.MethodName)) ∈ WS := ws_tin 900 (by decide +kernel) (by decide +kernel)
theorem q_901 : (Jvm.Cond.code ({ cls := "MatchingGraphModel", name := "augmentFrom", desc := "(I)I" } : Jvm.MethodName) prog_9_method_28_code (4 : Nat) (Option.some Jvm.ClassFile.FieldType.int)) ∈ WS := ws_tin 901 (by decide +kernel) (by decide +kernel)
theorem q_902 : (Jvm.Cond.methodLink "MatchingGraphModel" (97 : Nat) ({ cls := "MatchingGraphModel", name := "layWay", desc := "(I)I" } : Jvm.MethodName)) ∈ WS := ws_tin 902 (by decide +kernel) (by decide +kernel)
theorem q_904 : (Jvm.Cond.instanceMethod ({ cls := "MatchingGraphModel", name := "layWay", desc := "(I)I" } : Jvm.MethodName)) ∈ WS := ws_tin 904 (by decide +kernel) (by decide +kernel)
theorem q_905 : (Jvm.Cond.code ({ cls := "MatchingGraphModel", name := "layWay", desc := "(I)I" } : Jvm.MethodName) prog_9_method_26_code (3 : Nat) (Option.some Jvm.ClassFile.FieldType.int)) ∈ WS := ws_tin 905 (by decide +kernel) (by decide +kernel)
theorem q_906 : (Jvm.Cond.methodLink "MatchingGraphModel" (94 : Nat) ({ cls := "MatchingGraphModel", name := "goThrough", desc := "(II)Z" } : Jvm.MethodName)) ∈ WS := ws_tin 906 (by decide +kernel) (by decide +kernel)
theorem q_908 : (Jvm.Cond.instanceMethod ({ cls := "MatchingGraphModel", name := "goThrough", desc := "(II)Z" } : Jvm.MethodName)) ∈ WS := ws_tin 908 (by decide +kernel) (by decide +kernel)
theorem q_909 : (Jvm.Cond.code ({ cls := "MatchingGraphModel", name := "goThrough", desc := "(II)Z" } : Jvm.MethodName) prog_9_method_25_code (6 : Nat) (Option.some Jvm.ClassFile.FieldType.boolean)) ∈ WS := ws_tin 909 (by decide +kernel) (by decide +kernel)
theorem q_910 : (Jvm.Cond.methodLink "MatchingGraphModel" (90 : Nat) ({ cls := "MatchingGraphModel", name := "step", desc := "(III)I" } : Jvm.MethodName)) ∈ WS := ws_tin 910 (by decide +kernel) (by decide +kernel)
theorem q_912 : (Jvm.Cond.instanceMethod ({ cls := "MatchingGraphModel", name := "step", desc := "(III)I" } : Jvm.MethodName)) ∈ WS := ws_tin 912 (by decide +kernel) (by decide +kernel)
theorem q_913 : (Jvm.Cond.code ({ cls := "MatchingGraphModel", name := "step", desc := "(III)I" } : Jvm.MethodName) prog_9_method_24_code (5 : Nat) (Option.some Jvm.ClassFile.FieldType.int)) ∈ WS := ws_tin 913 (by decide +kernel) (by decide +kernel)
theorem q_914 : (Jvm.Cond.methodLink "MatchingGraphLaw" (120 : Nat) ({ cls := "MatchingGraphModel", name := "maximize", desc := "()I" } : Jvm.MethodName)) ∈ WS := ws_tin 914 (by decide +kernel) (by decide +kernel)
theorem q_915 : (Jvm.Cond.instanceMethod ({ cls := "MatchingGraphModel", name := "maximize", desc := "()I" } : Jvm.MethodName)) ∈ WS := ws_tin 915 (by decide +kernel) (by decide +kernel)
theorem q_916 : (Jvm.Cond.selects "MatchingGraphModel" ({ cls := "MatchingGraphModel", name := "maximize", desc := "()I" } : Jvm.MethodName) ({ cls := "MatchingGraphModel", name := "maximize", desc := "()I" } : Jvm.MethodName)) ∈ WS := ws_tin 916 (by decide +kernel) (by decide +kernel)
theorem q_917 : (Jvm.Cond.code ({ cls := "MatchingGraphModel", name := "maximize", desc := "()I" } : Jvm.MethodName) prog_9_method_43_code (3 : Nat) (Option.some Jvm.ClassFile.FieldType.int)) ∈ WS := ws_tin 917 (by decide +kernel) (by decide +kernel)
theorem q_918 : (Jvm.Cond.methodLink "MatchingGraphModel" (142 : Nat) ({ cls := "MatchingGraphModel", name := "lowestWithWay", desc := "()I" } : Jvm.MethodName)) ∈ WS := ws_tin 918 (by decide +kernel) (by decide +kernel)
theorem q_920 : (Jvm.Cond.instanceMethod ({ cls := "MatchingGraphModel", name := "lowestWithWay", desc := "()I" } : Jvm.MethodName)) ∈ WS := ws_tin 920 (by decide +kernel) (by decide +kernel)
theorem q_921 : (Jvm.Cond.code ({ cls := "MatchingGraphModel", name := "lowestWithWay", desc := "()I" } : Jvm.MethodName) prog_9_method_42_code (2 : Nat) (Option.some Jvm.ClassFile.FieldType.int)) ∈ WS := ws_tin 921 (by decide +kernel) (by decide +kernel)
theorem q_922 : (Jvm.Cond.methodLink "MatchingGraphLaw" (124 : Nat) ({ cls := "MatchingGraphModel", name := "takeFirst", desc := "()I" } : Jvm.MethodName)) ∈ WS := ws_tin 922 (by decide +kernel) (by decide +kernel)
theorem q_923 : (Jvm.Cond.instanceMethod ({ cls := "MatchingGraphModel", name := "takeFirst", desc := "()I" } : Jvm.MethodName)) ∈ WS := ws_tin 923 (by decide +kernel) (by decide +kernel)
theorem q_924 : (Jvm.Cond.selects "MatchingGraphModel" ({ cls := "MatchingGraphModel", name := "takeFirst", desc := "()I" } : Jvm.MethodName) ({ cls := "MatchingGraphModel", name := "takeFirst", desc := "()I" } : Jvm.MethodName)) ∈ WS := ws_tin 924 (by decide +kernel) (by decide +kernel)
theorem q_925 : (Jvm.Cond.code ({ cls := "MatchingGraphModel", name := "takeFirst", desc := "()I" } : Jvm.MethodName) prog_9_method_44_code (3 : Nat) (Option.some Jvm.ClassFile.FieldType.int)) ∈ WS := ws_tin 925 (by decide +kernel) (by decide +kernel)
theorem q_926 : (Jvm.Cond.methodLink "MatchingGraphModel" (145 : Nat) ({ cls := "MatchingGraphModel", name := "laySets", desc := "()V" } : Jvm.MethodName)) ∈ WS := ws_tin 926 (by decide +kernel) (by decide +kernel)
theorem q_928 : (Jvm.Cond.instanceMethod ({ cls := "MatchingGraphModel", name := "laySets", desc := "()V" } : Jvm.MethodName)) ∈ WS := ws_tin 928 (by decide +kernel) (by decide +kernel)
theorem q_929 : (Jvm.Cond.code ({ cls := "MatchingGraphModel", name := "laySets", desc := "()V" } : Jvm.MethodName) prog_9_method_14_code (5 : Nat) (Option.none : Option Jvm.ClassFile.FieldType)) ∈ WS := ws_tin 929 (by decide +kernel) (by decide +kernel)
theorem q_930 : (Jvm.Cond.methodLink "MatchingGraphModel" (57 : Nat) ({ cls := "MatchingGraphModel", name := "all", desc := "()I" } : Jvm.MethodName)) ∈ WS := ws_tin 930 (by decide +kernel) (by decide +kernel)
theorem q_932 : (Jvm.Cond.instanceMethod ({ cls := "MatchingGraphModel", name := "all", desc := "()I" } : Jvm.MethodName)) ∈ WS := ws_tin 932 (by decide +kernel) (by decide +kernel)
theorem q_933 : (Jvm.Cond.code ({ cls := "MatchingGraphModel", name := "all", desc := "()I" } : Jvm.MethodName) prog_9_method_7_code (1 : Nat) (Option.some Jvm.ClassFile.FieldType.int)) ∈ WS := ws_tin 933 (by decide +kernel) (by decide +kernel)
theorem q_934 : (Jvm.Cond.methodLink "MatchingGraphModel" (65 : Nat) ({ cls := "MatchingGraphModel", name := "note", desc := "(III)V" } : Jvm.MethodName)) ∈ WS := ws_tin 934 (by decide +kernel) (by decide +kernel)
theorem q_936 : (Jvm.Cond.instanceMethod ({ cls := "MatchingGraphModel", name := "note", desc := "(III)V" } : Jvm.MethodName)) ∈ WS := ws_tin 936 (by decide +kernel) (by decide +kernel)
theorem q_937 : (Jvm.Cond.code ({ cls := "MatchingGraphModel", name := "note", desc := "(III)V" } : Jvm.MethodName) prog_9_method_13_code (4 : Nat) (Option.none : Option Jvm.ClassFile.FieldType)) ∈ WS := ws_tin 937 (by decide +kernel) (by decide +kernel)
theorem q_938 : (Jvm.Cond.methodLink "MatchingGraphModel" (148 : Nat) ({ cls := "MatchingGraphModel", name := "layFirst", desc := "()V" } : Jvm.MethodName)) ∈ WS := ws_tin 938 (by decide +kernel) (by decide +kernel)
theorem q_940 : (Jvm.Cond.instanceMethod ({ cls := "MatchingGraphModel", name := "layFirst", desc := "()V" } : Jvm.MethodName)) ∈ WS := ws_tin 940 (by decide +kernel) (by decide +kernel)
theorem q_941 : (Jvm.Cond.code ({ cls := "MatchingGraphModel", name := "layFirst", desc := "()V" } : Jvm.MethodName) prog_9_method_15_code (5 : Nat) (Option.none : Option Jvm.ClassFile.FieldType)) ∈ WS := ws_tin 941 (by decide +kernel) (by decide +kernel)
theorem q_942 : (Jvm.Cond.methodLink "MatchingGraphLaw" (127 : Nat) ({ cls := "MatchingGraphModel", name := "undo", desc := "()I" } : Jvm.MethodName)) ∈ WS := ws_tin 942 (by decide +kernel) (by decide +kernel)
theorem q_943 : (Jvm.Cond.instanceMethod ({ cls := "MatchingGraphModel", name := "undo", desc := "()I" } : Jvm.MethodName)) ∈ WS := ws_tin 943 (by decide +kernel) (by decide +kernel)
theorem q_944 : (Jvm.Cond.selects "MatchingGraphModel" ({ cls := "MatchingGraphModel", name := "undo", desc := "()I" } : Jvm.MethodName) ({ cls := "MatchingGraphModel", name := "undo", desc := "()I" } : Jvm.MethodName)) ∈ WS := ws_tin 944 (by decide +kernel) (by decide +kernel)
theorem q_945 : (Jvm.Cond.code ({ cls := "MatchingGraphModel", name := "undo", desc := "()I" } : Jvm.MethodName) prog_9_method_45_code (2 : Nat) (Option.some Jvm.ClassFile.FieldType.int)) ∈ WS := ws_tin 945 (by decide +kernel) (by decide +kernel)
theorem q_946 : (Jvm.Cond.methodLink "MatchingGraphLaw" (130 : Nat) ({ cls := "MatchingGraphModel", name := "way", desc := "(I)I" } : Jvm.MethodName)) ∈ WS := ws_tin 946 (by decide +kernel) (by decide +kernel)
theorem q_947 : (Jvm.Cond.instanceMethod ({ cls := "MatchingGraphModel", name := "way", desc := "(I)I" } : Jvm.MethodName)) ∈ WS := ws_tin 947 (by decide +kernel) (by decide +kernel)
theorem q_948 : (Jvm.Cond.selects "MatchingGraphModel" ({ cls := "MatchingGraphModel", name := "way", desc := "(I)I" } : Jvm.MethodName) ({ cls := "MatchingGraphModel", name := "way", desc := "(I)I" } : Jvm.MethodName)) ∈ WS := ws_tin 948 (by decide +kernel) (by decide +kernel)
theorem q_949 : (Jvm.Cond.code ({ cls := "MatchingGraphModel", name := "way", desc := "(I)I" } : Jvm.MethodName) prog_9_method_46_code (2 : Nat) (Option.some Jvm.ClassFile.FieldType.int)) ∈ WS := ws_tin 949 (by decide +kernel) (by decide +kernel)
theorem q_950 : (Jvm.Cond.methodLink "MatchingGraphLaw" (133 : Nat) ({ cls := "MatchingGraphModel", name := "wayNode", desc := "(II)I" } : Jvm.MethodName)) ∈ WS := ws_tin 950 (by decide +kernel) (by decide +kernel)
theorem q_951 : (Jvm.Cond.instanceMethod ({ cls := "MatchingGraphModel", name := "wayNode", desc := "(II)I" } : Jvm.MethodName)) ∈ WS := ws_tin 951 (by decide +kernel) (by decide +kernel)
theorem q_952 : (Jvm.Cond.selects "MatchingGraphModel" ({ cls := "MatchingGraphModel", name := "wayNode", desc := "(II)I" } : Jvm.MethodName) ({ cls := "MatchingGraphModel", name := "wayNode", desc := "(II)I" } : Jvm.MethodName)) ∈ WS := ws_tin 952 (by decide +kernel) (by decide +kernel)
theorem q_953 : (Jvm.Cond.code ({ cls := "MatchingGraphModel", name := "wayNode", desc := "(II)I" } : Jvm.MethodName) prog_9_method_47_code (4 : Nat) (Option.some Jvm.ClassFile.FieldType.int)) ∈ WS := ws_tin 953 (by decide +kernel) (by decide +kernel)
theorem q_954 : (Jvm.Cond.methodLink "MatchingGraphLaw" (137 : Nat) ({ cls := "MatchingGraphModel", name := "reach", desc := "(IZ)I" } : Jvm.MethodName)) ∈ WS := ws_tin 954 (by decide +kernel) (by decide +kernel)
theorem q_955 : (Jvm.Cond.instanceMethod ({ cls := "MatchingGraphModel", name := "reach", desc := "(IZ)I" } : Jvm.MethodName)) ∈ WS := ws_tin 955 (by decide +kernel) (by decide +kernel)
theorem q_956 : (Jvm.Cond.selects "MatchingGraphModel" ({ cls := "MatchingGraphModel", name := "reach", desc := "(IZ)I" } : Jvm.MethodName) ({ cls := "MatchingGraphModel", name := "reach", desc := "(IZ)I" } : Jvm.MethodName)) ∈ WS := ws_tin 956 (by decide +kernel) (by decide +kernel)
theorem q_957 : (Jvm.Cond.code ({ cls := "MatchingGraphModel", name := "reach", desc := "(IZ)I" } : Jvm.MethodName) prog_9_method_48_code (3 : Nat) (Option.some Jvm.ClassFile.FieldType.int)) ∈ WS := ws_tin 957 (by decide +kernel) (by decide +kernel)
theorem q_958 : (Jvm.Cond.methodLink "MatchingGraphModel" (151 : Nat) ({ cls := "MatchingGraphModel", name := "layReach", desc := "(I)V" } : Jvm.MethodName)) ∈ WS := ws_tin 958 (by decide +kernel) (by decide +kernel)
theorem q_960 : (Jvm.Cond.instanceMethod ({ cls := "MatchingGraphModel", name := "layReach", desc := "(I)V" } : Jvm.MethodName)) ∈ WS := ws_tin 960 (by decide +kernel) (by decide +kernel)
theorem q_961 : (Jvm.Cond.code ({ cls := "MatchingGraphModel", name := "layReach", desc := "(I)V" } : Jvm.MethodName) prog_9_method_27_code (2 : Nat) (Option.none : Option Jvm.ClassFile.FieldType)) ∈ WS := ws_tin 961 (by decide +kernel) (by decide +kernel)
theorem q_962 : (Jvm.Cond.methodLink "MatchingGraphLaw" (141 : Nat) ({ cls := "MatchingGraphModel", name := "oddCycle", desc := "()I" } : Jvm.MethodName)) ∈ WS := ws_tin 962 (by decide +kernel) (by decide +kernel)
theorem q_963 : (Jvm.Cond.instanceMethod ({ cls := "MatchingGraphModel", name := "oddCycle", desc := "()I" } : Jvm.MethodName)) ∈ WS := ws_tin 963 (by decide +kernel) (by decide +kernel)
theorem q_964 : (Jvm.Cond.selects "MatchingGraphModel" ({ cls := "MatchingGraphModel", name := "oddCycle", desc := "()I" } : Jvm.MethodName) ({ cls := "MatchingGraphModel", name := "oddCycle", desc := "()I" } : Jvm.MethodName)) ∈ WS := ws_tin 964 (by decide +kernel) (by decide +kernel)
theorem q_965 : (Jvm.Cond.code ({ cls := "MatchingGraphModel", name := "oddCycle", desc := "()I" } : Jvm.MethodName) prog_9_method_51_code (1 : Nat) (Option.some Jvm.ClassFile.FieldType.int)) ∈ WS := ws_tin 965 (by decide +kernel) (by decide +kernel)
theorem q_966 : (Jvm.Cond.methodLink "MatchingGraphModel" (157 : Nat) ({ cls := "MatchingGraphModel", name := "oddCycleNow", desc := "()I" } : Jvm.MethodName)) ∈ WS := ws_tin 966 (by decide +kernel) (by decide +kernel)
theorem q_968 : (Jvm.Cond.instanceMethod ({ cls := "MatchingGraphModel", name := "oddCycleNow", desc := "()I" } : Jvm.MethodName)) ∈ WS := ws_tin 968 (by decide +kernel) (by decide +kernel)
theorem q_969 : (Jvm.Cond.code ({ cls := "MatchingGraphModel", name := "oddCycleNow", desc := "()I" } : Jvm.MethodName) prog_9_method_50_code (4 : Nat) (Option.some Jvm.ClassFile.FieldType.int)) ∈ WS := ws_tin 969 (by decide +kernel) (by decide +kernel)
theorem q_970 : (Jvm.Cond.methodLink "MatchingGraphModel" (154 : Nat) ({ cls := "MatchingGraphModel", name := "oddWalk", desc := "(I)I" } : Jvm.MethodName)) ∈ WS := ws_tin 970 (by decide +kernel) (by decide +kernel)
theorem q_972 : (Jvm.Cond.instanceMethod ({ cls := "MatchingGraphModel", name := "oddWalk", desc := "(I)I" } : Jvm.MethodName)) ∈ WS := ws_tin 972 (by decide +kernel) (by decide +kernel)
theorem q_973 : (Jvm.Cond.code ({ cls := "MatchingGraphModel", name := "oddWalk", desc := "(I)I" } : Jvm.MethodName) prog_9_method_49_code (8 : Nat) (Option.some Jvm.ClassFile.FieldType.int)) ∈ WS := ws_tin 973 (by decide +kernel) (by decide +kernel)
theorem q_974 : (Jvm.Cond.methodLink "MatchingGraphLaw" (144 : Nat) ({ cls := "MatchingGraphModel", name := "firstMate", desc := "(I)I" } : Jvm.MethodName)) ∈ WS := ws_tin 974 (by decide +kernel) (by decide +kernel)
theorem q_975 : (Jvm.Cond.instanceMethod ({ cls := "MatchingGraphModel", name := "firstMate", desc := "(I)I" } : Jvm.MethodName)) ∈ WS := ws_tin 975 (by decide +kernel) (by decide +kernel)
theorem q_976 : (Jvm.Cond.selects "MatchingGraphModel" ({ cls := "MatchingGraphModel", name := "firstMate", desc := "(I)I" } : Jvm.MethodName) ({ cls := "MatchingGraphModel", name := "firstMate", desc := "(I)I" } : Jvm.MethodName)) ∈ WS := ws_tin 976 (by decide +kernel) (by decide +kernel)
theorem q_977 : (Jvm.Cond.code ({ cls := "MatchingGraphModel", name := "firstMate", desc := "(I)I" } : Jvm.MethodName) prog_9_method_52_code (2 : Nat) (Option.some Jvm.ClassFile.FieldType.int)) ∈ WS := ws_tin 977 (by decide +kernel) (by decide +kernel)
theorem q_978 : (Jvm.Cond.methodLink "MatchingGraphLaw" (148 : Nat) ({ cls := "MatchingGraphModel", name := "proof", desc := "()I" } : Jvm.MethodName)) ∈ WS := ws_tin 978 (by decide +kernel) (by decide +kernel)
theorem q_979 : (Jvm.Cond.instanceMethod ({ cls := "MatchingGraphModel", name := "proof", desc := "()I" } : Jvm.MethodName)) ∈ WS := ws_tin 979 (by decide +kernel) (by decide +kernel)
theorem q_980 : (Jvm.Cond.selects "MatchingGraphModel" ({ cls := "MatchingGraphModel", name := "proof", desc := "()I" } : Jvm.MethodName) ({ cls := "MatchingGraphModel", name := "proof", desc := "()I" } : Jvm.MethodName)) ∈ WS := ws_tin 980 (by decide +kernel) (by decide +kernel)
theorem q_981 : (Jvm.Cond.code ({ cls := "MatchingGraphModel", name := "proof", desc := "()I" } : Jvm.MethodName) prog_9_method_53_code (1 : Nat) (Option.some Jvm.ClassFile.FieldType.int)) ∈ WS := ws_tin 981 (by decide +kernel) (by decide +kernel)
theorem q_982 : (Jvm.Cond.methodLink "MatchingGraphModel" (160 : Nat) ({ cls := "MatchingGraphModel", name := "proofNow", desc := "()I" } : Jvm.MethodName)) ∈ WS := ws_tin 982 (by decide +kernel) (by decide +kernel)
theorem q_984 : (Jvm.Cond.instanceMethod ({ cls := "MatchingGraphModel", name := "proofNow", desc := "()I" } : Jvm.MethodName)) ∈ WS := ws_tin 984 (by decide +kernel) (by decide +kernel)
theorem q_985 : (Jvm.Cond.code ({ cls := "MatchingGraphModel", name := "proofNow", desc := "()I" } : Jvm.MethodName) prog_9_method_23_code (6 : Nat) (Option.some Jvm.ClassFile.FieldType.int)) ∈ WS := ws_tin 985 (by decide +kernel) (by decide +kernel)
theorem q_986 : (Jvm.Cond.methodLink "MatchingGraphModel" (77 : Nat) ({ cls := "MatchingGraphModel", name := "bits", desc := "(I)I" } : Jvm.MethodName)) ∈ WS := ws_tin 986 (by decide +kernel) (by decide +kernel)
theorem q_987 : (Jvm.Cond.static ({ cls := "MatchingGraphModel", name := "bits", desc := "(I)I" } : Jvm.MethodName)) ∈ WS := ws_tin 987 (by decide +kernel) (by decide +kernel)
theorem q_988 : (Jvm.Cond.code ({ cls := "MatchingGraphModel", name := "bits", desc := "(I)I" } : Jvm.MethodName) prog_9_method_5_code (3 : Nat) (Option.some Jvm.ClassFile.FieldType.int)) ∈ WS := ws_tin 988 (by decide +kernel) (by decide +kernel)
theorem q_989 : (Jvm.Cond.methodLink "MatchingGraphModel" (80 : Nat) ({ cls := "MatchingGraphModel", name := "componentsOf", desc := "(IZ)I" } : Jvm.MethodName)) ∈ WS := ws_tin 989 (by decide +kernel) (by decide +kernel)
theorem q_991 : (Jvm.Cond.instanceMethod ({ cls := "MatchingGraphModel", name := "componentsOf", desc := "(IZ)I" } : Jvm.MethodName)) ∈ WS := ws_tin 991 (by decide +kernel) (by decide +kernel)
theorem q_992 : (Jvm.Cond.code ({ cls := "MatchingGraphModel", name := "componentsOf", desc := "(IZ)I" } : Jvm.MethodName) prog_9_method_21_code (7 : Nat) (Option.some Jvm.ClassFile.FieldType.int)) ∈ WS := ws_tin 992 (by decide +kernel) (by decide +kernel)
theorem q_993 : (Jvm.Cond.methodLink "MatchingGraphModel" (73 : Nat) ({ cls := "MatchingGraphModel", name := "componentOf", desc := "(II)I" } : Jvm.MethodName)) ∈ WS := ws_tin 993 (by decide +kernel) (by decide +kernel)
theorem q_995 : (Jvm.Cond.instanceMethod ({ cls := "MatchingGraphModel", name := "componentOf", desc := "(II)I" } : Jvm.MethodName)) ∈ WS := ws_tin 995 (by decide +kernel) (by decide +kernel)
theorem q_996 : (Jvm.Cond.code ({ cls := "MatchingGraphModel", name := "componentOf", desc := "(II)I" } : Jvm.MethodName) prog_9_method_20_code (6 : Nat) (Option.some Jvm.ClassFile.FieldType.int)) ∈ WS := ws_tin 996 (by decide +kernel) (by decide +kernel)
theorem q_997 : (Jvm.Cond.methodLink "MatchingGraphLaw" (151 : Nat) ({ cls := "MatchingGraphModel", name := "components", desc := "(IZ)I" } : Jvm.MethodName)) ∈ WS := ws_tin 997 (by decide +kernel) (by decide +kernel)
theorem q_998 : (Jvm.Cond.instanceMethod ({ cls := "MatchingGraphModel", name := "components", desc := "(IZ)I" } : Jvm.MethodName)) ∈ WS := ws_tin 998 (by decide +kernel) (by decide +kernel)
theorem q_999 : (Jvm.Cond.selects "MatchingGraphModel" ({ cls := "MatchingGraphModel", name := "components", desc := "(IZ)I" } : Jvm.MethodName) ({ cls := "MatchingGraphModel", name := "components", desc := "(IZ)I" } : Jvm.MethodName)) ∈ WS := ws_tin 999 (by decide +kernel) (by decide +kernel)
theorem q_1000 : (Jvm.Cond.code ({ cls := "MatchingGraphModel", name := "components", desc := "(IZ)I" } : Jvm.MethodName) prog_9_method_54_code (3 : Nat) (Option.some Jvm.ClassFile.FieldType.int)) ∈ WS := ws_tin 1000 (by decide +kernel) (by decide +kernel)
theorem q_1001 : (Jvm.Cond.methodLink "MatchingGraphLaw" (154 : Nat) ({ cls := "MatchingGraphModel", name := "ifChanged", desc := "(II)I" } : Jvm.MethodName)) ∈ WS := ws_tin 1001 (by decide +kernel) (by decide +kernel)
theorem q_1002 : (Jvm.Cond.instanceMethod ({ cls := "MatchingGraphModel", name := "ifChanged", desc := "(II)I" } : Jvm.MethodName)) ∈ WS := ws_tin 1002 (by decide +kernel) (by decide +kernel)
theorem q_1003 : (Jvm.Cond.selects "MatchingGraphModel" ({ cls := "MatchingGraphModel", name := "ifChanged", desc := "(II)I" } : Jvm.MethodName) ({ cls := "MatchingGraphModel", name := "ifChanged", desc := "(II)I" } : Jvm.MethodName)) ∈ WS := ws_tin 1003 (by decide +kernel) (by decide +kernel)
theorem q_1004 : (Jvm.Cond.code ({ cls := "MatchingGraphModel", name := "ifChanged", desc := "(II)I" } : Jvm.MethodName) prog_9_method_55_code (3 : Nat) (Option.some Jvm.ClassFile.FieldType.int)) ∈ WS := ws_tin 1004 (by decide +kernel) (by decide +kernel)
theorem q_1005 : (Jvm.Cond.methodLink "MatchingGraphLaw" (157 : Nat) ({ cls := "MatchingGraphModel", name := "node", desc := "(II)I" } : Jvm.MethodName)) ∈ WS := ws_tin 1005 (by decide +kernel) (by decide +kernel)
theorem q_1006 : (Jvm.Cond.instanceMethod ({ cls := "MatchingGraphModel", name := "node", desc := "(II)I" } : Jvm.MethodName)) ∈ WS := ws_tin 1006 (by decide +kernel) (by decide +kernel)
theorem q_1007 : (Jvm.Cond.selects "MatchingGraphModel" ({ cls := "MatchingGraphModel", name := "node", desc := "(II)I" } : Jvm.MethodName) ({ cls := "MatchingGraphModel", name := "node", desc := "(II)I" } : Jvm.MethodName)) ∈ WS := ws_tin 1007 (by decide +kernel) (by decide +kernel)
theorem q_1008 : (Jvm.Cond.code ({ cls := "MatchingGraphModel", name := "node", desc := "(II)I" } : Jvm.MethodName) prog_9_method_57_code (3 : Nat) (Option.some Jvm.ClassFile.FieldType.int)) ∈ WS := ws_tin 1008 (by decide +kernel) (by decide +kernel)
theorem q_1009 : (Jvm.Cond.methodLink "MatchingGraphModel" (169 : Nat) ({ cls := "MatchingGraphModel", name := "nodeNow", desc := "(II)I" } : Jvm.MethodName)) ∈ WS := ws_tin 1009 (by decide +kernel) (by decide +kernel)
theorem q_1011 : (Jvm.Cond.instanceMethod ({ cls := "MatchingGraphModel", name := "nodeNow", desc := "(II)I" } : Jvm.MethodName)) ∈ WS := ws_tin 1011 (by decide +kernel) (by decide +kernel)
theorem q_1012 : (Jvm.Cond.code ({ cls := "MatchingGraphModel", name := "nodeNow", desc := "(II)I" } : Jvm.MethodName) prog_9_method_56_code (3 : Nat) (Option.some Jvm.ClassFile.FieldType.int)) ∈ WS := ws_tin 1012 (by decide +kernel) (by decide +kernel)
theorem q_1013 : (Jvm.Cond.methodLink "MatchingGraphModel" (163 : Nat) ({ cls := "MatchingGraphModel", name := "partOf", desc := "(I)I" } : Jvm.MethodName)) ∈ WS := ws_tin 1013 (by decide +kernel) (by decide +kernel)
theorem q_1015 : (Jvm.Cond.instanceMethod ({ cls := "MatchingGraphModel", name := "partOf", desc := "(I)I" } : Jvm.MethodName)) ∈ WS := ws_tin 1015 (by decide +kernel) (by decide +kernel)
theorem q_1016 : (Jvm.Cond.code ({ cls := "MatchingGraphModel", name := "partOf", desc := "(I)I" } : Jvm.MethodName) prog_9_method_18_code (4 : Nat) (Option.some Jvm.ClassFile.FieldType.int)) ∈ WS := ws_tin 1016 (by decide +kernel) (by decide +kernel)
theorem q_1017 : (Jvm.Cond.methodLink "MatchingGraphModel" (69 : Nat) ({ cls := "MatchingGraphModel", name := "exposing", desc := "(I)I" } : Jvm.MethodName)) ∈ WS := ws_tin 1017 (by decide +kernel) (by decide +kernel)
theorem q_1019 : (Jvm.Cond.instanceMethod ({ cls := "MatchingGraphModel", name := "exposing", desc := "(I)I" } : Jvm.MethodName)) ∈ WS := ws_tin 1019 (by decide +kernel) (by decide +kernel)
theorem q_1020 : (Jvm.Cond.code ({ cls := "MatchingGraphModel", name := "exposing", desc := "(I)I" } : Jvm.MethodName) prog_9_method_16_code (3 : Nat) (Option.some Jvm.ClassFile.FieldType.int)) ∈ WS := ws_tin 1020 (by decide +kernel) (by decide +kernel)
theorem q_1021 : (Jvm.Cond.methodLink "MatchingGraphModel" (166 : Nat) ({ cls := "MatchingGraphModel", name := "lowest", desc := "(I)I" } : Jvm.MethodName)) ∈ WS := ws_tin 1021 (by decide +kernel) (by decide +kernel)
theorem q_1023 : (Jvm.Cond.instanceMethod ({ cls := "MatchingGraphModel", name := "lowest", desc := "(I)I" } : Jvm.MethodName)) ∈ WS := ws_tin 1023 (by decide +kernel) (by decide +kernel)
theorem q_1024 : (Jvm.Cond.code ({ cls := "MatchingGraphModel", name := "lowest", desc := "(I)I" } : Jvm.MethodName) prog_9_method_22_code (4 : Nat) (Option.some Jvm.ClassFile.FieldType.int)) ∈ WS := ws_tin 1024 (by decide +kernel) (by decide +kernel)
theorem q_1025 : (Jvm.Cond.methodLink "MatchingGraphLaw" (161 : Nat) ({ cls := "MatchingGraphModel", name := "edge", desc := "(III)I" } : Jvm.MethodName)) ∈ WS := ws_tin 1025 (by decide +kernel) (by decide +kernel)
theorem q_1026 : (Jvm.Cond.instanceMethod ({ cls := "MatchingGraphModel", name := "edge", desc := "(III)I" } : Jvm.MethodName)) ∈ WS := ws_tin 1026 (by decide +kernel) (by decide +kernel)
theorem q_1027 : (Jvm.Cond.selects "MatchingGraphModel" ({ cls := "MatchingGraphModel", name := "edge", desc := "(III)I" } : Jvm.MethodName) ({ cls := "MatchingGraphModel", name := "edge", desc := "(III)I" } : Jvm.MethodName)) ∈ WS := ws_tin 1027 (by decide +kernel) (by decide +kernel)
theorem q_1028 : (Jvm.Cond.code ({ cls := "MatchingGraphModel", name := "edge", desc := "(III)I" } : Jvm.MethodName) prog_9_method_59_code (4 : Nat) (Option.some Jvm.ClassFile.FieldType.int)) ∈ WS := ws_tin 1028 (by decide +kernel) (by decide +kernel)
theorem q_1029 : (Jvm.Cond.methodLink "MatchingGraphModel" (175 : Nat) ({ cls := "MatchingGraphModel", name := "edgeNow", desc := "(III)I" } : Jvm.MethodName)) ∈ WS := ws_tin 1029 (by decide +kernel) (by decide +kernel)
theorem q_1031 : (Jvm.Cond.instanceMethod ({ cls := "MatchingGraphModel", name := "edgeNow", desc := "(III)I" } : Jvm.MethodName)) ∈ WS := ws_tin 1031 (by decide +kernel) (by decide +kernel)
theorem q_1032 : (Jvm.Cond.code ({ cls := "MatchingGraphModel", name := "edgeNow", desc := "(III)I" } : Jvm.MethodName) prog_9_method_58_code (5 : Nat) (Option.some Jvm.ClassFile.FieldType.int)) ∈ WS := ws_tin 1032 (by decide +kernel) (by decide +kernel)
theorem q_1033 : (Jvm.Cond.methodLink "MatchingGraphModel" (172 : Nat) ({ cls := "MatchingGraphModel", name := "using", desc := "(II)I" } : Jvm.MethodName)) ∈ WS := ws_tin 1033 (by decide +kernel) (by decide +kernel)
theorem q_1035 : (Jvm.Cond.instanceMethod ({ cls := "MatchingGraphModel", name := "using", desc := "(II)I" } : Jvm.MethodName)) ∈ WS := ws_tin 1035 (by decide +kernel) (by decide +kernel)
theorem q_1036 : (Jvm.Cond.code ({ cls := "MatchingGraphModel", name := "using", desc := "(II)I" } : Jvm.MethodName) prog_9_method_17_code (5 : Nat) (Option.some Jvm.ClassFile.FieldType.int)) ∈ WS := ws_tin 1036 (by decide +kernel) (by decide +kernel)
theorem q_1037 : (Jvm.Cond.methodLink "MatchingGraphLaw" (164 : Nat) ({ cls := "MatchingGraphModel", name := "count", desc := "(I)I" } : Jvm.MethodName)) ∈ WS := ws_tin 1037 (by decide +kernel) (by decide +kernel)
theorem q_1038 : (Jvm.Cond.instanceMethod ({ cls := "MatchingGraphModel", name := "count", desc := "(I)I" } : Jvm.MethodName)) ∈ WS := ws_tin 1038 (by decide +kernel) (by decide +kernel)
theorem q_1039 : (Jvm.Cond.selects "MatchingGraphModel" ({ cls := "MatchingGraphModel", name := "count", desc := "(I)I" } : Jvm.MethodName) ({ cls := "MatchingGraphModel", name := "count", desc := "(I)I" } : Jvm.MethodName)) ∈ WS := ws_tin 1039 (by decide +kernel) (by decide +kernel)
theorem q_1040 : (Jvm.Cond.code ({ cls := "MatchingGraphModel", name := "count", desc := "(I)I" } : Jvm.MethodName) prog_9_method_63_code (2 : Nat) (Option.some Jvm.ClassFile.FieldType.int)) ∈ WS := ws_tin 1040 (by decide +kernel) (by decide +kernel)
theorem q_1041 : (Jvm.Cond.methodLink "MatchingGraphModel" (188 : Nat) ({ cls := "MatchingGraphModel", name := "counted", desc := "(I)I" } : Jvm.MethodName)) ∈ WS := ws_tin 1041 (by decide +kernel) (by decide +kernel)
theorem q_1043 : (Jvm.Cond.instanceMethod ({ cls := "MatchingGraphModel", name := "counted", desc := "(I)I" } : Jvm.MethodName)) ∈ WS := ws_tin 1043 (by decide +kernel) (by decide +kernel)
theorem q_1044 : (Jvm.Cond.code ({ cls := "MatchingGraphModel", name := "counted", desc := "(I)I" } : Jvm.MethodName) prog_9_method_62_code (2 : Nat) (Option.some Jvm.ClassFile.FieldType.int)) ∈ WS := ws_tin 1044 (by decide +kernel) (by decide +kernel)
theorem q_1045 : (Jvm.Cond.methodLink "MatchingGraphModel" (178 : Nat) ({ cls := "MatchingGraphModel", name := "edgeCount", desc := "()I" } : Jvm.MethodName)) ∈ WS := ws_tin 1045 (by decide +kernel) (by decide +kernel)
theorem q_1047 : (Jvm.Cond.instanceMethod ({ cls := "MatchingGraphModel", name := "edgeCount", desc := "()I" } : Jvm.MethodName)) ∈ WS := ws_tin 1047 (by decide +kernel) (by decide +kernel)
theorem q_1048 : (Jvm.Cond.code ({ cls := "MatchingGraphModel", name := "edgeCount", desc := "()I" } : Jvm.MethodName) prog_9_method_60_code (3 : Nat) (Option.some Jvm.ClassFile.FieldType.int)) ∈ WS := ws_tin 1048 (by decide +kernel) (by decide +kernel)
theorem q_1049 : (Jvm.Cond.methodLink "MatchingGraphModel" (181 : Nat) ({ cls := "MatchingGraphModel", name := "edgesIn", desc := "(I)I" } : Jvm.MethodName)) ∈ WS := ws_tin 1049 (by decide +kernel) (by decide +kernel)
theorem q_1051 : (Jvm.Cond.instanceMethod ({ cls := "MatchingGraphModel", name := "edgesIn", desc := "(I)I" } : Jvm.MethodName)) ∈ WS := ws_tin 1051 (by decide +kernel) (by decide +kernel)
theorem q_1052 : (Jvm.Cond.code ({ cls := "MatchingGraphModel", name := "edgesIn", desc := "(I)I" } : Jvm.MethodName) prog_9_method_61_code (5 : Nat) (Option.some Jvm.ClassFile.FieldType.int)) ∈ WS := ws_tin 1052 (by decide +kernel) (by decide +kernel)
theorem q_1053 : (Jvm.Cond.methodLink "MatchingGraphModel" (184 : Nat) ({ cls := "MatchingGraphModel", name := "isCritical", desc := "()Z" } : Jvm.MethodName)) ∈ WS := ws_tin 1053 (by decide +kernel) (by decide +kernel)
theorem q_1055 : (Jvm.Cond.instanceMethod ({ cls := "MatchingGraphModel", name := "isCritical", desc := "()Z" } : Jvm.MethodName)) ∈ WS := ws_tin 1055 (by decide +kernel) (by decide +kernel)
theorem q_1056 : (Jvm.Cond.code ({ cls := "MatchingGraphModel", name := "isCritical", desc := "()Z" } : Jvm.MethodName) prog_9_method_19_code (3 : Nat) (Option.some Jvm.ClassFile.FieldType.boolean)) ∈ WS := ws_tin 1056 (by decide +kernel) (by decide +kernel)
theorem q_1057 : (Jvm.Cond.methodLink "MatchingGraphLaw" (167 : Nat) ({ cls := "MatchingGraphModel", name := "difference", desc := "(I)I" } : Jvm.MethodName)) ∈ WS := ws_tin 1057 (by decide +kernel) (by decide +kernel)
theorem q_1058 : (Jvm.Cond.instanceMethod ({ cls := "MatchingGraphModel", name := "difference", desc := "(I)I" } : Jvm.MethodName)) ∈ WS := ws_tin 1058 (by decide +kernel) (by decide +kernel)
theorem q_1059 : (Jvm.Cond.selects "MatchingGraphModel" ({ cls := "MatchingGraphModel", name := "difference", desc := "(I)I" } : Jvm.MethodName) ({ cls := "MatchingGraphModel", name := "difference", desc := "(I)I" } : Jvm.MethodName)) ∈ WS := ws_tin 1059 (by decide +kernel) (by decide +kernel)
theorem q_1060 : (Jvm.Cond.code ({ cls := "MatchingGraphModel", name := "difference", desc := "(I)I" } : Jvm.MethodName) prog_9_method_68_code (2 : Nat) (Option.some Jvm.ClassFile.FieldType.int)) ∈ WS := ws_tin 1060 (by decide +kernel) (by decide +kernel)
theorem q_1061 : (Jvm.Cond.methodLink "MatchingGraphModel" (200 : Nat) ({ cls := "MatchingGraphModel", name := "differenceNow", desc := "(I)I" } : Jvm.MethodName)) ∈ WS := ws_tin 1061 (by decide +kernel) (by decide +kernel)
theorem q_1063 : (Jvm.Cond.instanceMethod ({ cls := "MatchingGraphModel", name := "differenceNow", desc := "(I)I" } : Jvm.MethodName)) ∈ WS := ws_tin 1063 (by decide +kernel) (by decide +kernel)
theorem q_1064 : (Jvm.Cond.code ({ cls := "MatchingGraphModel", name := "differenceNow", desc := "(I)I" } : Jvm.MethodName) prog_9_method_67_code (6 : Nat) (Option.some Jvm.ClassFile.FieldType.int)) ∈ WS := ws_tin 1064 (by decide +kernel) (by decide +kernel)
theorem q_1065 : (Jvm.Cond.methodLink "MatchingGraphModel" (191 : Nat) ({ cls := "MatchingGraphModel", name := "differs", desc := "(I)Z" } : Jvm.MethodName)) ∈ WS := ws_tin 1065 (by decide +kernel) (by decide +kernel)
theorem q_1067 : (Jvm.Cond.instanceMethod ({ cls := "MatchingGraphModel", name := "differs", desc := "(I)Z" } : Jvm.MethodName)) ∈ WS := ws_tin 1067 (by decide +kernel) (by decide +kernel)
theorem q_1068 : (Jvm.Cond.code ({ cls := "MatchingGraphModel", name := "differs", desc := "(I)Z" } : Jvm.MethodName) prog_9_method_64_code (2 : Nat) (Option.some Jvm.ClassFile.FieldType.boolean)) ∈ WS := ws_tin 1068 (by decide +kernel) (by decide +kernel)
theorem q_1069 : (Jvm.Cond.methodLink "MatchingGraphModel" (194 : Nat) ({ cls := "MatchingGraphModel", name := "joined", desc := "(I)I" } : Jvm.MethodName)) ∈ WS := ws_tin 1069 (by decide +kernel) (by decide +kernel)
theorem q_1071 : (Jvm.Cond.instanceMethod ({ cls := "MatchingGraphModel", name := "joined", desc := "(I)I" } : Jvm.MethodName)) ∈ WS := ws_tin 1071 (by decide +kernel) (by decide +kernel)
theorem q_1072 : (Jvm.Cond.code ({ cls := "MatchingGraphModel", name := "joined", desc := "(I)I" } : Jvm.MethodName) prog_9_method_65_code (5 : Nat) (Option.some Jvm.ClassFile.FieldType.int)) ∈ WS := ws_tin 1072 (by decide +kernel) (by decide +kernel)
theorem q_1073 : (Jvm.Cond.methodLink "MatchingGraphModel" (197 : Nat) ({ cls := "MatchingGraphModel", name := "isRing", desc := "(I)Z" } : Jvm.MethodName)) ∈ WS := ws_tin 1073 (by decide +kernel) (by decide +kernel)
theorem q_1075 : (Jvm.Cond.instanceMethod ({ cls := "MatchingGraphModel", name := "isRing", desc := "(I)Z" } : Jvm.MethodName)) ∈ WS := ws_tin 1075 (by decide +kernel) (by decide +kernel)
theorem q_1076 : (Jvm.Cond.code ({ cls := "MatchingGraphModel", name := "isRing", desc := "(I)Z" } : Jvm.MethodName) prog_9_method_66_code (4 : Nat) (Option.some Jvm.ClassFile.FieldType.boolean)) ∈ WS := ws_tin 1076 (by decide +kernel) (by decide +kernel)
theorem q_1077 : (Jvm.Cond.methodLink "MatchingGraphLaw" (172 : Nat) ({ cls := "MatchingGraphModel", name := "meanUse", desc := "()D" } : Jvm.MethodName)) ∈ WS := ws_tin 1077 (by decide +kernel) (by decide +kernel)
theorem q_1078 : (Jvm.Cond.instanceMethod ({ cls := "MatchingGraphModel", name := "meanUse", desc := "()D" } : Jvm.MethodName)) ∈ WS := ws_tin 1078 (by decide +kernel) (by decide +kernel)
theorem q_1079 : (Jvm.Cond.selects "MatchingGraphModel" ({ cls := "MatchingGraphModel", name := "meanUse", desc := "()D" } : Jvm.MethodName) ({ cls := "MatchingGraphModel", name := "meanUse", desc := "()D" } : Jvm.MethodName)) ∈ WS := ws_tin 1079 (by decide +kernel) (by decide +kernel)
theorem q_1080 : (Jvm.Cond.code ({ cls := "MatchingGraphModel", name := "meanUse", desc := "()D" } : Jvm.MethodName) prog_9_method_69_code (4 : Nat) (Option.some Jvm.ClassFile.FieldType.double)) ∈ WS := ws_tin 1080 (by decide +kernel) (by decide +kernel)
theorem q_1081 : (Jvm.Cond.methodLink "MatchingGraphLaw" (177 : Nat) ({ cls := "MatchingGraphModel", name := "digest", desc := "()J" } : Jvm.MethodName)) ∈ WS := ws_tin 1081 (by decide +kernel) (by decide +kernel)
theorem q_1082 : (Jvm.Cond.instanceMethod ({ cls := "MatchingGraphModel", name := "digest", desc := "()J" } : Jvm.MethodName)) ∈ WS := ws_tin 1082 (by decide +kernel) (by decide +kernel)
theorem q_1083 : (Jvm.Cond.selects "MatchingGraphModel" ({ cls := "MatchingGraphModel", name := "digest", desc := "()J" } : Jvm.MethodName) ({ cls := "MatchingGraphModel", name := "digest", desc := "()J" } : Jvm.MethodName)) ∈ WS := ws_tin 1083 (by decide +kernel) (by decide +kernel)
theorem q_1084 : (Jvm.Cond.code ({ cls := "MatchingGraphModel", name := "digest", desc := "()J" } : Jvm.MethodName) prog_9_method_73_code (2 : Nat) (Option.some Jvm.ClassFile.FieldType.long)) ∈ WS := ws_tin 1084 (by decide +kernel) (by decide +kernel)
theorem q_1085 : (Jvm.Cond.constantLong "MatchingGraphModel" (213 : Nat) (2003 : Int64)) ∈ WS := ws_tin 1085 (by decide +kernel) (by decide +kernel)
theorem q_1086 : (Jvm.Cond.methodLink "MatchingGraphModel" (209 : Nat) ({ cls := "MatchingGraphModel", name := "mix", desc := "(J)V" } : Jvm.MethodName)) ∈ WS := ws_tin 1086 (by decide +kernel) (by decide +kernel)
theorem q_1088 : (Jvm.Cond.instanceMethod ({ cls := "MatchingGraphModel", name := "mix", desc := "(J)V" } : Jvm.MethodName)) ∈ WS := ws_tin 1088 (by decide +kernel) (by decide +kernel)
theorem q_1089 : (Jvm.Cond.code ({ cls := "MatchingGraphModel", name := "mix", desc := "(J)V" } : Jvm.MethodName) prog_9_method_70_code (3 : Nat) (Option.none : Option Jvm.ClassFile.FieldType)) ∈ WS := ws_tin 1089 (by decide +kernel) (by decide +kernel)
theorem q_1090 : (Jvm.Cond.constantLong "MatchingGraphModel" (203 : Nat) (31 : Int64)) ∈ WS := ws_tin 1090 (by decide +kernel) (by decide +kernel)
theorem q_1091 : (Jvm.Cond.methodLink "MatchingGraphModel" (215 : Nat) ({ cls := "MatchingGraphModel", name := "mixNode", desc := "(I)V" } : Jvm.MethodName)) ∈ WS := ws_tin 1091 (by decide +kernel) (by decide +kernel)
theorem q_1093 : (Jvm.Cond.instanceMethod ({ cls := "MatchingGraphModel", name := "mixNode", desc := "(I)V" } : Jvm.MethodName)) ∈ WS := ws_tin 1093 (by decide +kernel) (by decide +kernel)
theorem q_1094 : (Jvm.Cond.code ({ cls := "MatchingGraphModel", name := "mixNode", desc := "(I)V" } : Jvm.MethodName) prog_9_method_71_code (3 : Nat) (Option.none : Option Jvm.ClassFile.FieldType)) ∈ WS := ws_tin 1094 (by decide +kernel) (by decide +kernel)
theorem q_1095 : (Jvm.Cond.methodLink "MatchingGraphModel" (218 : Nat) ({ cls := "MatchingGraphModel", name := "mixPairs", desc := "()V" } : Jvm.MethodName)) ∈ WS := ws_tin 1095 (by decide +kernel) (by decide +kernel)
theorem q_1097 : (Jvm.Cond.instanceMethod ({ cls := "MatchingGraphModel", name := "mixPairs", desc := "()V" } : Jvm.MethodName)) ∈ WS := ws_tin 1097 (by decide +kernel) (by decide +kernel)
theorem q_1098 : (Jvm.Cond.code ({ cls := "MatchingGraphModel", name := "mixPairs", desc := "()V" } : Jvm.MethodName) prog_9_method_72_code (4 : Nat) (Option.none : Option Jvm.ClassFile.FieldType)) ∈ WS := ws_tin 1098 (by decide +kernel) (by decide +kernel)
theorem q_1099 : (Jvm.Cond.arrayClass Jvm.ClassFile.FieldType.long) ∈ WS := ws_tin 1099 (by decide +kernel) (by decide +kernel)
theorem qs_0 : Cond.selects "MatchingGraph$Input" ⟨"MatchingGraph$Input", "stateAt", "(III)I"⟩ ⟨"MatchingGraph$Input", "stateAt", "(III)I"⟩ ∈ WS := ws_pin 0 (by decide +kernel) (by decide +kernel)
theorem qs_1 : Cond.selects "MatchingGraph" ⟨"MatchingGraph", "augmentLowest", "()Z"⟩ ⟨"MatchingGraph", "augmentLowest", "()Z"⟩ ∈ WS := ws_pin 1 (by decide +kernel) (by decide +kernel)
theorem qs_2 : Cond.selects "MatchingGraph" ⟨"MatchingGraph", "augmentFrom", "(I)I"⟩ ⟨"MatchingGraph", "augmentFrom", "(I)I"⟩ ∈ WS := ws_pin 2 (by decide +kernel) (by decide +kernel)
theorem qs_3 : Cond.selects "MatchingGraph$Paths" ⟨"MatchingGraph$Paths", "numberPairs", "()V"⟩ ⟨"MatchingGraph$Paths", "numberPairs", "()V"⟩ ∈ WS := ws_pin 3 (by decide +kernel) (by decide +kernel)
theorem qs_4 : Cond.selects "MatchingGraph$Paths" ⟨"MatchingGraph$Paths", "followWay", "(III)Z"⟩ ⟨"MatchingGraph$Paths", "followWay", "(III)Z"⟩ ∈ WS := ws_pin 4 (by decide +kernel) (by decide +kernel)
theorem qs_5 : Cond.selects "MatchingGraph$Paths" ⟨"MatchingGraph$Paths", "followWayTo", "(IIII)Z"⟩ ⟨"MatchingGraph$Paths", "followWayTo", "(IIII)Z"⟩ ∈ WS := ws_pin 5 (by decide +kernel) (by decide +kernel)
theorem qs_6 : Cond.selects "MatchingGraph$Maxima" ⟨"MatchingGraph$Maxima", "learn", "()V"⟩ ⟨"MatchingGraph$Maxima", "learn", "()V"⟩ ∈ WS := ws_pin 6 (by decide +kernel) (by decide +kernel)
theorem qs_7 : Cond.selects "MatchingGraph$Maxima" ⟨"MatchingGraph$Maxima", "findOut", "(II)V"⟩ ⟨"MatchingGraph$Maxima", "findOut", "(II)V"⟩ ∈ WS := ws_pin 7 (by decide +kernel) (by decide +kernel)
theorem qs_8 : Cond.selects "MatchingGraph$Maxima" ⟨"MatchingGraph$Maxima", "findFirst", "()V"⟩ ⟨"MatchingGraph$Maxima", "findFirst", "()V"⟩ ∈ WS := ws_pin 8 (by decide +kernel) (by decide +kernel)
theorem qs_9 : Cond.selects "MatchingGraph$Maxima" ⟨"MatchingGraph$Maxima", "leastMate", "(II)I"⟩ ⟨"MatchingGraph$Maxima", "leastMate", "(II)I"⟩ ∈ WS := ws_pin 9 (by decide +kernel) (by decide +kernel)
theorem qs_10 : Cond.selects "MatchingGraph$Graph" ⟨"MatchingGraph$Graph", "besides", "(I)I"⟩ ⟨"MatchingGraph$Graph", "besides", "(I)I"⟩ ∈ WS := ws_pin 10 (by decide +kernel) (by decide +kernel)
theorem qs_11 : Cond.selects "MatchingGraph" ⟨"MatchingGraph", "isProof", "(II)Z"⟩ ⟨"MatchingGraph", "isProof", "(II)Z"⟩ ∈ WS := ws_pin 11 (by decide +kernel) (by decide +kernel)
theorem qs_12 : Cond.selects "MatchingGraph" ⟨"MatchingGraph", "deficiency", "()I"⟩ ⟨"MatchingGraph", "deficiency", "()I"⟩ ∈ WS := ws_pin 12 (by decide +kernel) (by decide +kernel)
theorem qs_13 : Cond.selects "java/lang/Throwable" ⟨"java/lang/Throwable", "fillInStackTrace", "(I)Ljava/lang/Throwable;"⟩ ⟨"java/lang/Throwable", "fillInStackTrace", "(I)Ljava/lang/Throwable;"⟩ ∈ WS := ws_pin 13 (by decide +kernel) (by decide +kernel)
theorem qs_14 : Cond.selects "MatchingGraph" ⟨"MatchingGraph", "mixNode", "(JI)J"⟩ ⟨"MatchingGraph", "mixNode", "(JI)J"⟩ ∈ WS := ws_pin 14 (by decide +kernel) (by decide +kernel)
theorem qs_15 : Cond.selects "MatchingGraph" ⟨"MatchingGraph", "requireNode", "(I)V"⟩ ⟨"MatchingGraph", "requireNode", "(I)V"⟩ ∈ WS := ws_pin 15 (by decide +kernel) (by decide +kernel)
theorem qs_16 : Cond.selects "MatchingGraph" ⟨"MatchingGraph", "partOf", "(I)I"⟩ ⟨"MatchingGraph", "partOf", "(I)I"⟩ ∈ WS := ws_pin 16 (by decide +kernel) (by decide +kernel)
theorem qs_17 : Cond.selects "MatchingGraph$Paths" ⟨"MatchingGraph$Paths", "followFrom", "(III)V"⟩ ⟨"MatchingGraph$Paths", "followFrom", "(III)V"⟩ ∈ WS := ws_pin 17 (by decide +kernel) (by decide +kernel)
theorem qs_18 : Cond.selects "MatchingGraph" ⟨"MatchingGraph", "requireExposed", "(I)V"⟩ ⟨"MatchingGraph", "requireExposed", "(I)V"⟩ ∈ WS := ws_pin 18 (by decide +kernel) (by decide +kernel)
theorem qs_19 : Cond.selects "MatchingGraph" ⟨"MatchingGraph", "mixPair", "(JII)J"⟩ ⟨"MatchingGraph", "mixPair", "(JII)J"⟩ ∈ WS := ws_pin 19 (by decide +kernel) (by decide +kernel)
theorem qs_20 : Cond.selects "MatchingGraph" ⟨"MatchingGraph", "drawDifferences", "(LMatchingGraph$Matching;)V"⟩ ⟨"MatchingGraph", "drawDifferences", "(LMatchingGraph$Matching;)V"⟩ ∈ WS := ws_pin 20 (by decide +kernel) (by decide +kernel)
theorem qs_21 : Cond.selects "MatchingGraph" ⟨"MatchingGraph", "mixInput", "(J)J"⟩ ⟨"MatchingGraph", "mixInput", "(J)J"⟩ ∈ WS := ws_pin 21 (by decide +kernel) (by decide +kernel)
theorem qs_22 : Cond.selects "MatchingGraph" ⟨"MatchingGraph", "addRead", "(IIZ)I"⟩ ⟨"MatchingGraph", "addRead", "(IIZ)I"⟩ ∈ WS := ws_pin 22 (by decide +kernel) (by decide +kernel)
theorem qs_23 : Cond.selects "MatchingGraphModel" ⟨"MatchingGraphModel", "clearAll", "()V"⟩ ⟨"MatchingGraphModel", "clearAll", "()V"⟩ ∈ WS := ws_pin 23 (by decide +kernel) (by decide +kernel)
theorem qs_24 : Cond.selects "MatchingGraphModel" ⟨"MatchingGraphModel", "isNode", "(I)Z"⟩ ⟨"MatchingGraphModel", "isNode", "(I)Z"⟩ ∈ WS := ws_pin 24 (by decide +kernel) (by decide +kernel)
theorem qs_25 : Cond.selects "MatchingGraphModel" ⟨"MatchingGraphModel", "keep", "()V"⟩ ⟨"MatchingGraphModel", "keep", "()V"⟩ ∈ WS := ws_pin 25 (by decide +kernel) (by decide +kernel)
theorem qs_26 : Cond.selects "MatchingGraphModel" ⟨"MatchingGraphModel", "flip", "(II)V"⟩ ⟨"MatchingGraphModel", "flip", "(II)V"⟩ ∈ WS := ws_pin 26 (by decide +kernel) (by decide +kernel)
theorem qs_27 : Cond.selects "MatchingGraphModel" ⟨"MatchingGraphModel", "part", "(I)V"⟩ ⟨"MatchingGraphModel", "part", "(I)V"⟩ ∈ WS := ws_pin 27 (by decide +kernel) (by decide +kernel)
theorem qs_28 : Cond.selects "MatchingGraphModel" ⟨"MatchingGraphModel", "rightLength", "()I"⟩ ⟨"MatchingGraphModel", "rightLength", "()I"⟩ ∈ WS := ws_pin 28 (by decide +kernel) (by decide +kernel)
theorem qs_29 : Cond.selects "MatchingGraphModel" ⟨"MatchingGraphModel", "takes", "(I)Z"⟩ ⟨"MatchingGraphModel", "takes", "(I)Z"⟩ ∈ WS := ws_pin 29 (by decide +kernel) (by decide +kernel)
theorem qs_30 : Cond.selects "MatchingGraphModel" ⟨"MatchingGraphModel", "pair", "(II)V"⟩ ⟨"MatchingGraphModel", "pair", "(II)V"⟩ ∈ WS := ws_pin 30 (by decide +kernel) (by decide +kernel)
theorem qs_31 : Cond.selects "MatchingGraphModel" ⟨"MatchingGraphModel", "size", "()I"⟩ ⟨"MatchingGraphModel", "size", "()I"⟩ ∈ WS := ws_pin 31 (by decide +kernel) (by decide +kernel)
theorem qs_32 : Cond.selects "MatchingGraphModel" ⟨"MatchingGraphModel", "exposedFault", "(I)I"⟩ ⟨"MatchingGraphModel", "exposedFault", "(I)I"⟩ ∈ WS := ws_pin 32 (by decide +kernel) (by decide +kernel)
theorem qs_33 : Cond.selects "MatchingGraphModel" ⟨"MatchingGraphModel", "augmentFrom", "(I)I"⟩ ⟨"MatchingGraphModel", "augmentFrom", "(I)I"⟩ ∈ WS := ws_pin 33 (by decide +kernel) (by decide +kernel)
theorem qs_34 : Cond.selects "MatchingGraphModel" ⟨"MatchingGraphModel", "layWay", "(I)I"⟩ ⟨"MatchingGraphModel", "layWay", "(I)I"⟩ ∈ WS := ws_pin 34 (by decide +kernel) (by decide +kernel)
theorem qs_35 : Cond.selects "MatchingGraphModel" ⟨"MatchingGraphModel", "goThrough", "(II)Z"⟩ ⟨"MatchingGraphModel", "goThrough", "(II)Z"⟩ ∈ WS := ws_pin 35 (by decide +kernel) (by decide +kernel)
theorem qs_36 : Cond.selects "MatchingGraphModel" ⟨"MatchingGraphModel", "step", "(III)I"⟩ ⟨"MatchingGraphModel", "step", "(III)I"⟩ ∈ WS := ws_pin 36 (by decide +kernel) (by decide +kernel)
theorem qs_37 : Cond.selects "MatchingGraphModel" ⟨"MatchingGraphModel", "lowestWithWay", "()I"⟩ ⟨"MatchingGraphModel", "lowestWithWay", "()I"⟩ ∈ WS := ws_pin 37 (by decide +kernel) (by decide +kernel)
theorem qs_38 : Cond.selects "MatchingGraphModel" ⟨"MatchingGraphModel", "laySets", "()V"⟩ ⟨"MatchingGraphModel", "laySets", "()V"⟩ ∈ WS := ws_pin 38 (by decide +kernel) (by decide +kernel)
theorem qs_39 : Cond.selects "MatchingGraphModel" ⟨"MatchingGraphModel", "all", "()I"⟩ ⟨"MatchingGraphModel", "all", "()I"⟩ ∈ WS := ws_pin 39 (by decide +kernel) (by decide +kernel)
theorem qs_40 : Cond.selects "MatchingGraphModel" ⟨"MatchingGraphModel", "note", "(III)V"⟩ ⟨"MatchingGraphModel", "note", "(III)V"⟩ ∈ WS := ws_pin 40 (by decide +kernel) (by decide +kernel)
theorem qs_41 : Cond.selects "MatchingGraphModel" ⟨"MatchingGraphModel", "layFirst", "()V"⟩ ⟨"MatchingGraphModel", "layFirst", "()V"⟩ ∈ WS := ws_pin 41 (by decide +kernel) (by decide +kernel)
theorem qs_42 : Cond.selects "MatchingGraphModel" ⟨"MatchingGraphModel", "layReach", "(I)V"⟩ ⟨"MatchingGraphModel", "layReach", "(I)V"⟩ ∈ WS := ws_pin 42 (by decide +kernel) (by decide +kernel)
theorem qs_43 : Cond.selects "MatchingGraphModel" ⟨"MatchingGraphModel", "oddCycleNow", "()I"⟩ ⟨"MatchingGraphModel", "oddCycleNow", "()I"⟩ ∈ WS := ws_pin 43 (by decide +kernel) (by decide +kernel)
theorem qs_44 : Cond.selects "MatchingGraphModel" ⟨"MatchingGraphModel", "oddWalk", "(I)I"⟩ ⟨"MatchingGraphModel", "oddWalk", "(I)I"⟩ ∈ WS := ws_pin 44 (by decide +kernel) (by decide +kernel)
theorem qs_45 : Cond.selects "MatchingGraphModel" ⟨"MatchingGraphModel", "proofNow", "()I"⟩ ⟨"MatchingGraphModel", "proofNow", "()I"⟩ ∈ WS := ws_pin 45 (by decide +kernel) (by decide +kernel)
theorem qs_46 : Cond.selects "MatchingGraphModel" ⟨"MatchingGraphModel", "componentsOf", "(IZ)I"⟩ ⟨"MatchingGraphModel", "componentsOf", "(IZ)I"⟩ ∈ WS := ws_pin 46 (by decide +kernel) (by decide +kernel)
theorem qs_47 : Cond.selects "MatchingGraphModel" ⟨"MatchingGraphModel", "componentOf", "(II)I"⟩ ⟨"MatchingGraphModel", "componentOf", "(II)I"⟩ ∈ WS := ws_pin 47 (by decide +kernel) (by decide +kernel)
theorem qs_48 : Cond.selects "MatchingGraphModel" ⟨"MatchingGraphModel", "nodeNow", "(II)I"⟩ ⟨"MatchingGraphModel", "nodeNow", "(II)I"⟩ ∈ WS := ws_pin 48 (by decide +kernel) (by decide +kernel)
theorem qs_49 : Cond.selects "MatchingGraphModel" ⟨"MatchingGraphModel", "partOf", "(I)I"⟩ ⟨"MatchingGraphModel", "partOf", "(I)I"⟩ ∈ WS := ws_pin 49 (by decide +kernel) (by decide +kernel)
theorem qs_50 : Cond.selects "MatchingGraphModel" ⟨"MatchingGraphModel", "exposing", "(I)I"⟩ ⟨"MatchingGraphModel", "exposing", "(I)I"⟩ ∈ WS := ws_pin 50 (by decide +kernel) (by decide +kernel)
theorem qs_51 : Cond.selects "MatchingGraphModel" ⟨"MatchingGraphModel", "lowest", "(I)I"⟩ ⟨"MatchingGraphModel", "lowest", "(I)I"⟩ ∈ WS := ws_pin 51 (by decide +kernel) (by decide +kernel)
theorem qs_52 : Cond.selects "MatchingGraphModel" ⟨"MatchingGraphModel", "edgeNow", "(III)I"⟩ ⟨"MatchingGraphModel", "edgeNow", "(III)I"⟩ ∈ WS := ws_pin 52 (by decide +kernel) (by decide +kernel)
theorem qs_53 : Cond.selects "MatchingGraphModel" ⟨"MatchingGraphModel", "using", "(II)I"⟩ ⟨"MatchingGraphModel", "using", "(II)I"⟩ ∈ WS := ws_pin 53 (by decide +kernel) (by decide +kernel)
theorem qs_54 : Cond.selects "MatchingGraphModel" ⟨"MatchingGraphModel", "counted", "(I)I"⟩ ⟨"MatchingGraphModel", "counted", "(I)I"⟩ ∈ WS := ws_pin 54 (by decide +kernel) (by decide +kernel)
theorem qs_55 : Cond.selects "MatchingGraphModel" ⟨"MatchingGraphModel", "edgeCount", "()I"⟩ ⟨"MatchingGraphModel", "edgeCount", "()I"⟩ ∈ WS := ws_pin 55 (by decide +kernel) (by decide +kernel)
theorem qs_56 : Cond.selects "MatchingGraphModel" ⟨"MatchingGraphModel", "edgesIn", "(I)I"⟩ ⟨"MatchingGraphModel", "edgesIn", "(I)I"⟩ ∈ WS := ws_pin 56 (by decide +kernel) (by decide +kernel)
theorem qs_57 : Cond.selects "MatchingGraphModel" ⟨"MatchingGraphModel", "isCritical", "()Z"⟩ ⟨"MatchingGraphModel", "isCritical", "()Z"⟩ ∈ WS := ws_pin 57 (by decide +kernel) (by decide +kernel)
theorem qs_58 : Cond.selects "MatchingGraphModel" ⟨"MatchingGraphModel", "differenceNow", "(I)I"⟩ ⟨"MatchingGraphModel", "differenceNow", "(I)I"⟩ ∈ WS := ws_pin 58 (by decide +kernel) (by decide +kernel)
theorem qs_59 : Cond.selects "MatchingGraphModel" ⟨"MatchingGraphModel", "differs", "(I)Z"⟩ ⟨"MatchingGraphModel", "differs", "(I)Z"⟩ ∈ WS := ws_pin 59 (by decide +kernel) (by decide +kernel)
theorem qs_60 : Cond.selects "MatchingGraphModel" ⟨"MatchingGraphModel", "joined", "(I)I"⟩ ⟨"MatchingGraphModel", "joined", "(I)I"⟩ ∈ WS := ws_pin 60 (by decide +kernel) (by decide +kernel)
theorem qs_61 : Cond.selects "MatchingGraphModel" ⟨"MatchingGraphModel", "isRing", "(I)Z"⟩ ⟨"MatchingGraphModel", "isRing", "(I)Z"⟩ ∈ WS := ws_pin 61 (by decide +kernel) (by decide +kernel)
theorem qs_62 : Cond.selects "MatchingGraphModel" ⟨"MatchingGraphModel", "mix", "(J)V"⟩ ⟨"MatchingGraphModel", "mix", "(J)V"⟩ ∈ WS := ws_pin 62 (by decide +kernel) (by decide +kernel)
theorem qs_63 : Cond.selects "MatchingGraphModel" ⟨"MatchingGraphModel", "mixNode", "(I)V"⟩ ⟨"MatchingGraphModel", "mixNode", "(I)V"⟩ ∈ WS := ws_pin 63 (by decide +kernel) (by decide +kernel)
theorem qs_64 : Cond.selects "MatchingGraphModel" ⟨"MatchingGraphModel", "mixPairs", "()V"⟩ ⟨"MatchingGraphModel", "mixPairs", "()V"⟩ ∈ WS := ws_pin 64 (by decide +kernel) (by decide +kernel)
/-- the words of nest mates: a state has them or not -/
def NWl : List Cond := [(Jvm.Cond.methodLinkNest "MatchingGraph" (11 : Nat) ({ cls := "MatchingGraph$Graph", name := "<init>", desc := "()V" } : Jvm.MethodName) "MatchingGraph"), (Jvm.Cond.fieldLinkNest "MatchingGraph$Paths" (36 : Nat) "MatchingGraph$Graph" "nodes" "I" "MatchingGraph"), (Jvm.Cond.fieldLinkNest "MatchingGraph" (65 : Nat) "MatchingGraph$Graph" "nodes" "I" "MatchingGraph"), (Jvm.Cond.fieldLinkNest "MatchingGraph$Maxima" (56 : Nat) "MatchingGraph$Graph" "nodes" "I" "MatchingGraph"), (Jvm.Cond.fieldLinkNest "MatchingGraph$History" (26 : Nat) "MatchingGraph$Graph" "near" "[I" "MatchingGraph"), (Jvm.Cond.fieldLinkNest "MatchingGraph$Maxima" (59 : Nat) "MatchingGraph$Graph" "near" "[I" "MatchingGraph"), (Jvm.Cond.fieldLinkNest "MatchingGraph" (240 : Nat) "MatchingGraph$Graph" "near" "[I" "MatchingGraph"), (Jvm.Cond.fieldLinkNest "MatchingGraph$Maxima" (37 : Nat) "MatchingGraph$Graph" "changes" "I" "MatchingGraph"), (Jvm.Cond.fieldLinkNest "MatchingGraph$Paths" (41 : Nat) "MatchingGraph$Matching" "mate" "[I" "MatchingGraph"), (Jvm.Cond.fieldLinkNest "MatchingGraph$History" (38 : Nat) "MatchingGraph$Matching" "mate" "[I" "MatchingGraph"), (Jvm.Cond.fieldLinkNest "MatchingGraph" (150 : Nat) "MatchingGraph$Matching" "mate" "[I" "MatchingGraph"), (Jvm.Cond.methodLinkNest "MatchingGraph" (25 : Nat) ({ cls := "MatchingGraph$Input", name := "<init>", desc := "()V" } : Jvm.MethodName) "MatchingGraph"), (Jvm.Cond.fieldLinkNest "MatchingGraph" (325 : Nat) "MatchingGraph$Input" "codes" "[I" "MatchingGraph"), (Jvm.Cond.fieldLinkNest "MatchingGraph" (102 : Nat) "MatchingGraph$Input" "length" "I" "MatchingGraph"), (Jvm.Cond.methodLinkNest "MatchingGraph" (32 : Nat) ({ cls := "MatchingGraph$History", name := "<init>", desc := "()V" } : Jvm.MethodName) "MatchingGraph"), (Jvm.Cond.fieldLinkNest "MatchingGraph" (179 : Nat) "MatchingGraph$History" "kept" "I" "MatchingGraph"), (Jvm.Cond.fieldLinkNest "MatchingGraph" (164 : Nat) "MatchingGraph$Paths" "wayNodes" "[I" "MatchingGraph"), (Jvm.Cond.fieldLinkNest "MatchingGraph" (190 : Nat) "MatchingGraph$Paths" "evenEnds" "I" "MatchingGraph"), (Jvm.Cond.fieldLinkNest "MatchingGraph" (193 : Nat) "MatchingGraph$Paths" "oddEnds" "I" "MatchingGraph")]
theorem nw_tbl : ∀ w ∈ NWl, w ∈ lw_tbl := by decide +kernel
def NW (U : State) : Prop := ∀ w ∈ NWl, va_Nw w U
theorem n_29 {U : State} (h : NW U) : va_Nw (Jvm.Cond.methodLinkNest "MatchingGraph" (11 : Nat) ({ cls := "MatchingGraph$Graph", name := "<init>", desc := "()V" } : Jvm.MethodName) "MatchingGraph") U := h _ (List.mem_of_getElem? (i := 0) rfl)
theorem n_34 {U : State} (h : NW U) : va_Nw (Jvm.Cond.fieldLinkNest "MatchingGraph$Paths" (36 : Nat) "MatchingGraph$Graph" "nodes" "I" "MatchingGraph") U := h _ (List.mem_of_getElem? (i := 1) rfl)
theorem n_35 {U : State} (h : NW U) : va_Nw (Jvm.Cond.fieldLinkNest "MatchingGraph" (65 : Nat) "MatchingGraph$Graph" "nodes" "I" "MatchingGraph") U := h _ (List.mem_of_getElem? (i := 2) rfl)
theorem n_36 {U : State} (h : NW U) : va_Nw (Jvm.Cond.fieldLinkNest "MatchingGraph$Maxima" (56 : Nat) "MatchingGraph$Graph" "nodes" "I" "MatchingGraph") U := h _ (List.mem_of_getElem? (i := 3) rfl)
theorem n_38 {U : State} (h : NW U) : va_Nw (Jvm.Cond.fieldLinkNest "MatchingGraph$History" (26 : Nat) "MatchingGraph$Graph" "near" "[I" "MatchingGraph") U := h _ (List.mem_of_getElem? (i := 4) rfl)
theorem n_39 {U : State} (h : NW U) : va_Nw (Jvm.Cond.fieldLinkNest "MatchingGraph$Maxima" (59 : Nat) "MatchingGraph$Graph" "near" "[I" "MatchingGraph") U := h _ (List.mem_of_getElem? (i := 5) rfl)
theorem n_40 {U : State} (h : NW U) : va_Nw (Jvm.Cond.fieldLinkNest "MatchingGraph" (240 : Nat) "MatchingGraph$Graph" "near" "[I" "MatchingGraph") U := h _ (List.mem_of_getElem? (i := 6) rfl)
theorem n_42 {U : State} (h : NW U) : va_Nw (Jvm.Cond.fieldLinkNest "MatchingGraph$Maxima" (37 : Nat) "MatchingGraph$Graph" "changes" "I" "MatchingGraph") U := h _ (List.mem_of_getElem? (i := 7) rfl)
theorem n_61 {U : State} (h : NW U) : va_Nw (Jvm.Cond.fieldLinkNest "MatchingGraph$Paths" (41 : Nat) "MatchingGraph$Matching" "mate" "[I" "MatchingGraph") U := h _ (List.mem_of_getElem? (i := 8) rfl)
theorem n_62 {U : State} (h : NW U) : va_Nw (Jvm.Cond.fieldLinkNest "MatchingGraph$History" (38 : Nat) "MatchingGraph$Matching" "mate" "[I" "MatchingGraph") U := h _ (List.mem_of_getElem? (i := 9) rfl)
theorem n_63 {U : State} (h : NW U) : va_Nw (Jvm.Cond.fieldLinkNest "MatchingGraph" (150 : Nat) "MatchingGraph$Matching" "mate" "[I" "MatchingGraph") U := h _ (List.mem_of_getElem? (i := 10) rfl)
theorem n_69 {U : State} (h : NW U) : va_Nw (Jvm.Cond.methodLinkNest "MatchingGraph" (25 : Nat) ({ cls := "MatchingGraph$Input", name := "<init>", desc := "()V" } : Jvm.MethodName) "MatchingGraph") U := h _ (List.mem_of_getElem? (i := 11) rfl)
theorem n_74 {U : State} (h : NW U) : va_Nw (Jvm.Cond.fieldLinkNest "MatchingGraph" (325 : Nat) "MatchingGraph$Input" "codes" "[I" "MatchingGraph") U := h _ (List.mem_of_getElem? (i := 12) rfl)
theorem n_76 {U : State} (h : NW U) : va_Nw (Jvm.Cond.fieldLinkNest "MatchingGraph" (102 : Nat) "MatchingGraph$Input" "length" "I" "MatchingGraph") U := h _ (List.mem_of_getElem? (i := 13) rfl)
theorem n_84 {U : State} (h : NW U) : va_Nw (Jvm.Cond.methodLinkNest "MatchingGraph" (32 : Nat) ({ cls := "MatchingGraph$History", name := "<init>", desc := "()V" } : Jvm.MethodName) "MatchingGraph") U := h _ (List.mem_of_getElem? (i := 14) rfl)
theorem n_94 {U : State} (h : NW U) : va_Nw (Jvm.Cond.fieldLinkNest "MatchingGraph" (179 : Nat) "MatchingGraph$History" "kept" "I" "MatchingGraph") U := h _ (List.mem_of_getElem? (i := 15) rfl)
theorem n_115 {U : State} (h : NW U) : va_Nw (Jvm.Cond.fieldLinkNest "MatchingGraph" (164 : Nat) "MatchingGraph$Paths" "wayNodes" "[I" "MatchingGraph") U := h _ (List.mem_of_getElem? (i := 16) rfl)
theorem n_117 {U : State} (h : NW U) : va_Nw (Jvm.Cond.fieldLinkNest "MatchingGraph" (190 : Nat) "MatchingGraph$Paths" "evenEnds" "I" "MatchingGraph") U := h _ (List.mem_of_getElem? (i := 17) rfl)
theorem n_119 {U : State} (h : NW U) : va_Nw (Jvm.Cond.fieldLinkNest "MatchingGraph" (193 : Nat) "MatchingGraph$Paths" "oddEnds" "I" "MatchingGraph") U := h _ (List.mem_of_getElem? (i := 18) rfl)
end
section
theorem dX0_init_0 : decode cX0_init 0 = .ok (.aload_n 0, 1) := by decide +kernel
theorem dX0_init_1 : decode cX0_init 1 = .ok (.invokespecial 3, 3) := by decide +kernel
theorem dX0_init_4 : decode cX0_init 4 = .ok (.aload_n 0, 1) := by decide +kernel
theorem dX0_init_5 : decode cX0_init 5 = .ok (.bipush 6, 2) := by decide +kernel
theorem dX0_init_7 : decode cX0_init 7 = .ok (.putfield 9, 3) := by decide +kernel
theorem dX0_init_10 : decode cX0_init 10 = .ok (.aload_n 0, 1) := by decide +kernel
theorem dX0_init_11 : decode cX0_init 11 = .ok (.bipush 12, 2) := by decide +kernel
theorem dX0_init_13 : decode cX0_init 13 = .ok (.newarray .int, 2) := by decide +kernel
theorem dX0_init_15 : decode cX0_init 15 = .ok (.putfield 15, 3) := by decide +kernel
theorem dX0_init_18 : decode cX0_init 18 = .ok (.aload_n 0, 1) := by decide +kernel
theorem dX0_init_19 : decode cX0_init 19 = .ok (.iconst 0, 1) := by decide +kernel
theorem dX0_init_20 : decode cX0_init 20 = .ok (.putfield 19, 3) := by decide +kernel
theorem dX0_init_23 : decode cX0_init 23 = .ok (.return_, 1) := by decide +kernel
theorem dX0_clear_0 : decode cX0_clear 0 = .ok (.aload_n 0, 1) := by decide +kernel
theorem dX0_clear_1 : decode cX0_clear 1 = .ok (.iload_n 1, 1) := by decide +kernel
theorem dX0_clear_2 : decode cX0_clear 2 = .ok (.putfield 9, 3) := by decide +kernel
theorem dX0_clear_5 : decode cX0_clear 5 = .ok (.aload_n 0, 1) := by decide +kernel
theorem dX0_clear_6 : decode cX0_clear 6 = .ok (.getfield 15, 3) := by decide +kernel
theorem dX0_clear_9 : decode cX0_clear 9 = .ok (.iconst 0, 1) := by decide +kernel
theorem dX0_clear_10 : decode cX0_clear 10 = .ok (.invokestatic 22, 3) := by decide +kernel
theorem dX0_clear_13 : decode cX0_clear 13 = .ok (.aload_n 0, 1) := by decide +kernel
theorem dX0_clear_14 : decode cX0_clear 14 = .ok (.dup, 1) := by decide +kernel
theorem dX0_clear_15 : decode cX0_clear 15 = .ok (.getfield 19, 3) := by decide +kernel
theorem dX0_clear_18 : decode cX0_clear 18 = .ok (.iconst 1, 1) := by decide +kernel
theorem dX0_clear_19 : decode cX0_clear 19 = .ok (.iadd, 1) := by decide +kernel
theorem dX0_clear_20 : decode cX0_clear 20 = .ok (.putfield 19, 3) := by decide +kernel
theorem dX0_clear_23 : decode cX0_clear 23 = .ok (.return_, 1) := by decide +kernel
theorem dX0_copyFrom_0 : decode cX0_copyFrom 0 = .ok (.aload_n 1, 1) := by decide +kernel
theorem dX0_copyFrom_1 : decode cX0_copyFrom 1 = .ok (.iconst 0, 1) := by decide +kernel
theorem dX0_copyFrom_2 : decode cX0_copyFrom 2 = .ok (.aload_n 0, 1) := by decide +kernel
theorem dX0_copyFrom_3 : decode cX0_copyFrom 3 = .ok (.getfield 15, 3) := by decide +kernel
theorem dX0_copyFrom_6 : decode cX0_copyFrom 6 = .ok (.iconst 0, 1) := by decide +kernel
theorem dX0_copyFrom_7 : decode cX0_copyFrom 7 = .ok (.bipush 12, 2) := by decide +kernel
theorem dX0_copyFrom_9 : decode cX0_copyFrom 9 = .ok (.invokestatic 28, 3) := by decide +kernel
theorem dX0_copyFrom_12 : decode cX0_copyFrom 12 = .ok (.aload_n 0, 1) := by decide +kernel
theorem dX0_copyFrom_13 : decode cX0_copyFrom 13 = .ok (.dup, 1) := by decide +kernel
theorem dX0_copyFrom_14 : decode cX0_copyFrom 14 = .ok (.getfield 19, 3) := by decide +kernel
theorem dX0_copyFrom_17 : decode cX0_copyFrom 17 = .ok (.iconst 1, 1) := by decide +kernel
theorem dX0_copyFrom_18 : decode cX0_copyFrom 18 = .ok (.iadd, 1) := by decide +kernel
theorem dX0_copyFrom_19 : decode cX0_copyFrom 19 = .ok (.putfield 19, 3) := by decide +kernel
theorem dX0_copyFrom_22 : decode cX0_copyFrom 22 = .ok (.return_, 1) := by decide +kernel
theorem dX0_all_0 : decode cX0_all 0 = .ok (.iconst 1, 1) := by decide +kernel
theorem dX0_all_1 : decode cX0_all 1 = .ok (.aload_n 0, 1) := by decide +kernel
theorem dX0_all_2 : decode cX0_all 2 = .ok (.getfield 9, 3) := by decide +kernel
theorem dX0_all_5 : decode cX0_all 5 = .ok (.ishl, 1) := by decide +kernel
theorem dX0_all_6 : decode cX0_all 6 = .ok (.iconst 1, 1) := by decide +kernel
theorem dX0_all_7 : decode cX0_all 7 = .ok (.isub, 1) := by decide +kernel
theorem dX0_all_8 : decode cX0_all 8 = .ok (.ireturn, 1) := by decide +kernel
theorem dX0_joined_0 : decode cX0_joined 0 = .ok (.aload_n 0, 1) := by decide +kernel
theorem dX0_joined_1 : decode cX0_joined 1 = .ok (.getfield 15, 3) := by decide +kernel
theorem dX0_joined_4 : decode cX0_joined 4 = .ok (.iload_n 1, 1) := by decide +kernel
theorem dX0_joined_5 : decode cX0_joined 5 = .ok (.iaload, 1) := by decide +kernel
theorem dX0_joined_6 : decode cX0_joined 6 = .ok (.iload_n 2, 1) := by decide +kernel
theorem dX0_joined_7 : decode cX0_joined 7 = .ok (.ishr, 1) := by decide +kernel
theorem dX0_joined_8 : decode cX0_joined 8 = .ok (.iconst 1, 1) := by decide +kernel
theorem dX0_joined_9 : decode cX0_joined 9 = .ok (.iand, 1) := by decide +kernel
theorem dX0_joined_10 : decode cX0_joined 10 = .ok (.ifCond .eq 7, 3) := by decide +kernel
theorem dX0_joined_13 : decode cX0_joined 13 = .ok (.iconst 1, 1) := by decide +kernel
theorem dX0_joined_14 : decode cX0_joined 14 = .ok (.goto 4, 3) := by decide +kernel
theorem dX0_joined_17 : decode cX0_joined 17 = .ok (.iconst 0, 1) := by decide +kernel
theorem dX0_joined_18 : decode cX0_joined 18 = .ok (.ireturn, 1) := by decide +kernel
theorem dX0_put_0 : decode cX0_put 0 = .ok (.aload_n 0, 1) := by decide +kernel
theorem dX0_put_1 : decode cX0_put 1 = .ok (.iload_n 1, 1) := by decide +kernel
theorem dX0_put_2 : decode cX0_put 2 = .ok (.iload_n 2, 1) := by decide +kernel
theorem dX0_put_3 : decode cX0_put 3 = .ok (.invokevirtual 34, 3) := by decide +kernel
theorem dX0_put_6 : decode cX0_put 6 = .ok (.iload_n 3, 1) := by decide +kernel
theorem dX0_put_7 : decode cX0_put 7 = .ok (.if_icmp .eq 37, 3) := by decide +kernel
theorem dX0_put_10 : decode cX0_put 10 = .ok (.aload_n 0, 1) := by decide +kernel
theorem dX0_put_11 : decode cX0_put 11 = .ok (.getfield 15, 3) := by decide +kernel
theorem dX0_put_14 : decode cX0_put 14 = .ok (.iload_n 1, 1) := by decide +kernel
theorem dX0_put_15 : decode cX0_put 15 = .ok (.dup2, 1) := by decide +kernel
theorem dX0_put_16 : decode cX0_put 16 = .ok (.iaload, 1) := by decide +kernel
theorem dX0_put_17 : decode cX0_put 17 = .ok (.iconst 1, 1) := by decide +kernel
theorem dX0_put_18 : decode cX0_put 18 = .ok (.iload_n 2, 1) := by decide +kernel
theorem dX0_put_19 : decode cX0_put 19 = .ok (.ishl, 1) := by decide +kernel
theorem dX0_put_20 : decode cX0_put 20 = .ok (.ixor, 1) := by decide +kernel
theorem dX0_put_21 : decode cX0_put 21 = .ok (.iastore, 1) := by decide +kernel
theorem dX0_put_22 : decode cX0_put 22 = .ok (.aload_n 0, 1) := by decide +kernel
theorem dX0_put_23 : decode cX0_put 23 = .ok (.getfield 15, 3) := by decide +kernel
theorem dX0_put_26 : decode cX0_put 26 = .ok (.iload_n 2, 1) := by decide +kernel
theorem dX0_put_27 : decode cX0_put 27 = .ok (.dup2, 1) := by decide +kernel
theorem dX0_put_28 : decode cX0_put 28 = .ok (.iaload, 1) := by decide +kernel
theorem dX0_put_29 : decode cX0_put 29 = .ok (.iconst 1, 1) := by decide +kernel
theorem dX0_put_30 : decode cX0_put 30 = .ok (.iload_n 1, 1) := by decide +kernel
theorem dX0_put_31 : decode cX0_put 31 = .ok (.ishl, 1) := by decide +kernel
theorem dX0_put_32 : decode cX0_put 32 = .ok (.ixor, 1) := by decide +kernel
theorem dX0_put_33 : decode cX0_put 33 = .ok (.iastore, 1) := by decide +kernel
theorem dX0_put_34 : decode cX0_put 34 = .ok (.aload_n 0, 1) := by decide +kernel
theorem dX0_put_35 : decode cX0_put 35 = .ok (.dup, 1) := by decide +kernel
theorem dX0_put_36 : decode cX0_put 36 = .ok (.getfield 19, 3) := by decide +kernel
theorem dX0_put_39 : decode cX0_put 39 = .ok (.iconst 1, 1) := by decide +kernel
theorem dX0_put_40 : decode cX0_put 40 = .ok (.iadd, 1) := by decide +kernel
theorem dX0_put_41 : decode cX0_put 41 = .ok (.putfield 19, 3) := by decide +kernel
theorem dX0_put_44 : decode cX0_put 44 = .ok (.return_, 1) := by decide +kernel
theorem dX0_edges_0 : decode cX0_edges 0 = .ok (.iconst 0, 1) := by decide +kernel
theorem dX0_edges_1 : decode cX0_edges 1 = .ok (.istore_n 1, 1) := by decide +kernel
theorem dX0_edges_2 : decode cX0_edges 2 = .ok (.iconst 0, 1) := by decide +kernel
theorem dX0_edges_3 : decode cX0_edges 3 = .ok (.istore_n 2, 1) := by decide +kernel
theorem dX0_edges_4 : decode cX0_edges 4 = .ok (.iload_n 2, 1) := by decide +kernel
theorem dX0_edges_5 : decode cX0_edges 5 = .ok (.aload_n 0, 1) := by decide +kernel
theorem dX0_edges_6 : decode cX0_edges 6 = .ok (.getfield 9, 3) := by decide +kernel
theorem dX0_edges_9 : decode cX0_edges 9 = .ok (.if_icmp .ge 21, 3) := by decide +kernel
theorem dX0_edges_12 : decode cX0_edges 12 = .ok (.iload_n 1, 1) := by decide +kernel
theorem dX0_edges_13 : decode cX0_edges 13 = .ok (.aload_n 0, 1) := by decide +kernel
theorem dX0_edges_14 : decode cX0_edges 14 = .ok (.getfield 15, 3) := by decide +kernel
theorem dX0_edges_17 : decode cX0_edges 17 = .ok (.iload_n 2, 1) := by decide +kernel
theorem dX0_edges_18 : decode cX0_edges 18 = .ok (.iaload, 1) := by decide +kernel
theorem dX0_edges_19 : decode cX0_edges 19 = .ok (.invokestatic 38, 3) := by decide +kernel
theorem dX0_edges_22 : decode cX0_edges 22 = .ok (.iadd, 1) := by decide +kernel
theorem dX0_edges_23 : decode cX0_edges 23 = .ok (.istore_n 1, 1) := by decide +kernel
theorem dX0_edges_24 : decode cX0_edges 24 = .ok (.iinc 2 1, 3) := by decide +kernel
theorem dX0_edges_27 : decode cX0_edges 27 = .ok (.goto (-23), 3) := by decide +kernel
theorem dX0_edges_30 : decode cX0_edges 30 = .ok (.iload_n 1, 1) := by decide +kernel
theorem dX0_edges_31 : decode cX0_edges 31 = .ok (.iconst 2, 1) := by decide +kernel
theorem dX0_edges_32 : decode cX0_edges 32 = .ok (.idiv, 1) := by decide +kernel
theorem dX0_edges_33 : decode cX0_edges 33 = .ok (.ireturn, 1) := by decide +kernel
theorem dX0_pieceOf_0 : decode cX0_pieceOf 0 = .ok (.iconst 1, 1) := by decide +kernel
theorem dX0_pieceOf_1 : decode cX0_pieceOf 1 = .ok (.iload_n 1, 1) := by decide +kernel
theorem dX0_pieceOf_2 : decode cX0_pieceOf 2 = .ok (.ishl, 1) := by decide +kernel
theorem dX0_pieceOf_3 : decode cX0_pieceOf 3 = .ok (.istore_n 3, 1) := by decide +kernel
theorem dX0_pieceOf_4 : decode cX0_pieceOf 4 = .ok (.iload_n 3, 1) := by decide +kernel
theorem dX0_pieceOf_5 : decode cX0_pieceOf 5 = .ok (.istore 4, 2) := by decide +kernel
theorem dX0_pieceOf_7 : decode cX0_pieceOf 7 = .ok (.iconst 0, 1) := by decide +kernel
theorem dX0_pieceOf_8 : decode cX0_pieceOf 8 = .ok (.istore 5, 2) := by decide +kernel
theorem dX0_pieceOf_10 : decode cX0_pieceOf 10 = .ok (.iload 5, 2) := by decide +kernel
theorem dX0_pieceOf_12 : decode cX0_pieceOf 12 = .ok (.aload_n 0, 1) := by decide +kernel
theorem dX0_pieceOf_13 : decode cX0_pieceOf 13 = .ok (.getfield 9, 3) := by decide +kernel
theorem dX0_pieceOf_16 : decode cX0_pieceOf 16 = .ok (.if_icmp .ge 55, 3) := by decide +kernel
theorem dX0_pieceOf_19 : decode cX0_pieceOf 19 = .ok (.iload 4, 2) := by decide +kernel
theorem dX0_pieceOf_21 : decode cX0_pieceOf 21 = .ok (.ifCond .eq 50, 3) := by decide +kernel
theorem dX0_pieceOf_24 : decode cX0_pieceOf 24 = .ok (.iload 4, 2) := by decide +kernel
theorem dX0_pieceOf_26 : decode cX0_pieceOf 26 = .ok (.invokestatic 44, 3) := by decide +kernel
theorem dX0_pieceOf_29 : decode cX0_pieceOf 29 = .ok (.istore 6, 2) := by decide +kernel
theorem dX0_pieceOf_31 : decode cX0_pieceOf 31 = .ok (.aload_n 0, 1) := by decide +kernel
theorem dX0_pieceOf_32 : decode cX0_pieceOf 32 = .ok (.getfield 15, 3) := by decide +kernel
theorem dX0_pieceOf_35 : decode cX0_pieceOf 35 = .ok (.iload 6, 2) := by decide +kernel
theorem dX0_pieceOf_37 : decode cX0_pieceOf 37 = .ok (.iaload, 1) := by decide +kernel
theorem dX0_pieceOf_38 : decode cX0_pieceOf 38 = .ok (.iload_n 2, 1) := by decide +kernel
theorem dX0_pieceOf_39 : decode cX0_pieceOf 39 = .ok (.iand, 1) := by decide +kernel
theorem dX0_pieceOf_40 : decode cX0_pieceOf 40 = .ok (.iload_n 3, 1) := by decide +kernel
theorem dX0_pieceOf_41 : decode cX0_pieceOf 41 = .ok (.iconst (-1), 1) := by decide +kernel
theorem dX0_pieceOf_42 : decode cX0_pieceOf 42 = .ok (.ixor, 1) := by decide +kernel
theorem dX0_pieceOf_43 : decode cX0_pieceOf 43 = .ok (.iand, 1) := by decide +kernel
theorem dX0_pieceOf_44 : decode cX0_pieceOf 44 = .ok (.istore 7, 2) := by decide +kernel
theorem dX0_pieceOf_46 : decode cX0_pieceOf 46 = .ok (.iload_n 3, 1) := by decide +kernel
theorem dX0_pieceOf_47 : decode cX0_pieceOf 47 = .ok (.iload 7, 2) := by decide +kernel
theorem dX0_pieceOf_49 : decode cX0_pieceOf 49 = .ok (.ior, 1) := by decide +kernel
theorem dX0_pieceOf_50 : decode cX0_pieceOf 50 = .ok (.istore_n 3, 1) := by decide +kernel
theorem dX0_pieceOf_51 : decode cX0_pieceOf 51 = .ok (.iload 4, 2) := by decide +kernel
theorem dX0_pieceOf_53 : decode cX0_pieceOf 53 = .ok (.iconst 1, 1) := by decide +kernel
theorem dX0_pieceOf_54 : decode cX0_pieceOf 54 = .ok (.iload 6, 2) := by decide +kernel
theorem dX0_pieceOf_56 : decode cX0_pieceOf 56 = .ok (.ishl, 1) := by decide +kernel
theorem dX0_pieceOf_57 : decode cX0_pieceOf 57 = .ok (.iconst (-1), 1) := by decide +kernel
theorem dX0_pieceOf_58 : decode cX0_pieceOf 58 = .ok (.ixor, 1) := by decide +kernel
theorem dX0_pieceOf_59 : decode cX0_pieceOf 59 = .ok (.iand, 1) := by decide +kernel
theorem dX0_pieceOf_60 : decode cX0_pieceOf 60 = .ok (.iload 7, 2) := by decide +kernel
theorem dX0_pieceOf_62 : decode cX0_pieceOf 62 = .ok (.ior, 1) := by decide +kernel
theorem dX0_pieceOf_63 : decode cX0_pieceOf 63 = .ok (.istore 4, 2) := by decide +kernel
theorem dX0_pieceOf_65 : decode cX0_pieceOf 65 = .ok (.iinc 5 1, 3) := by decide +kernel
theorem dX0_pieceOf_68 : decode cX0_pieceOf 68 = .ok (.goto (-58), 3) := by decide +kernel
theorem dX0_pieceOf_71 : decode cX0_pieceOf 71 = .ok (.iload_n 3, 1) := by decide +kernel
theorem dX0_pieceOf_72 : decode cX0_pieceOf 72 = .ok (.ireturn, 1) := by decide +kernel
theorem dX0_pieces_0 : decode cX0_pieces 0 = .ok (.iload_n 1, 1) := by decide +kernel
theorem dX0_pieces_1 : decode cX0_pieces 1 = .ok (.istore_n 3, 1) := by decide +kernel
theorem dX0_pieces_2 : decode cX0_pieces 2 = .ok (.iconst 0, 1) := by decide +kernel
theorem dX0_pieces_3 : decode cX0_pieces 3 = .ok (.istore 4, 2) := by decide +kernel
theorem dX0_pieces_5 : decode cX0_pieces 5 = .ok (.iconst 0, 1) := by decide +kernel
theorem dX0_pieces_6 : decode cX0_pieces 6 = .ok (.istore 5, 2) := by decide +kernel
theorem dX0_pieces_8 : decode cX0_pieces 8 = .ok (.iload 5, 2) := by decide +kernel
theorem dX0_pieces_10 : decode cX0_pieces 10 = .ok (.aload_n 0, 1) := by decide +kernel
theorem dX0_pieces_11 : decode cX0_pieces 11 = .ok (.getfield 9, 3) := by decide +kernel
theorem dX0_pieces_14 : decode cX0_pieces 14 = .ok (.if_icmp .ge 54, 3) := by decide +kernel
theorem dX0_pieces_17 : decode cX0_pieces 17 = .ok (.iload_n 3, 1) := by decide +kernel
theorem dX0_pieces_18 : decode cX0_pieces 18 = .ok (.iload 5, 2) := by decide +kernel
theorem dX0_pieces_20 : decode cX0_pieces 20 = .ok (.ishr, 1) := by decide +kernel
theorem dX0_pieces_21 : decode cX0_pieces 21 = .ok (.iconst 1, 1) := by decide +kernel
theorem dX0_pieces_22 : decode cX0_pieces 22 = .ok (.iand, 1) := by decide +kernel
theorem dX0_pieces_23 : decode cX0_pieces 23 = .ok (.ifCond .eq 39, 3) := by decide +kernel
theorem dX0_pieces_26 : decode cX0_pieces 26 = .ok (.aload_n 0, 1) := by decide +kernel
theorem dX0_pieces_27 : decode cX0_pieces 27 = .ok (.iload 5, 2) := by decide +kernel
theorem dX0_pieces_29 : decode cX0_pieces 29 = .ok (.iload_n 1, 1) := by decide +kernel
theorem dX0_pieces_30 : decode cX0_pieces 30 = .ok (.invokevirtual 47, 3) := by decide +kernel
theorem dX0_pieces_33 : decode cX0_pieces 33 = .ok (.istore 6, 2) := by decide +kernel
theorem dX0_pieces_35 : decode cX0_pieces 35 = .ok (.iload_n 3, 1) := by decide +kernel
theorem dX0_pieces_36 : decode cX0_pieces 36 = .ok (.iload 6, 2) := by decide +kernel
theorem dX0_pieces_38 : decode cX0_pieces 38 = .ok (.iconst (-1), 1) := by decide +kernel
theorem dX0_pieces_39 : decode cX0_pieces 39 = .ok (.ixor, 1) := by decide +kernel
theorem dX0_pieces_40 : decode cX0_pieces 40 = .ok (.iand, 1) := by decide +kernel
theorem dX0_pieces_41 : decode cX0_pieces 41 = .ok (.istore_n 3, 1) := by decide +kernel
theorem dX0_pieces_42 : decode cX0_pieces 42 = .ok (.iload 4, 2) := by decide +kernel
theorem dX0_pieces_44 : decode cX0_pieces 44 = .ok (.iload_n 2, 1) := by decide +kernel
theorem dX0_pieces_45 : decode cX0_pieces 45 = .ok (.ifCond .eq 13, 3) := by decide +kernel
theorem dX0_pieces_48 : decode cX0_pieces 48 = .ok (.iload 6, 2) := by decide +kernel
theorem dX0_pieces_50 : decode cX0_pieces 50 = .ok (.invokestatic 38, 3) := by decide +kernel
theorem dX0_pieces_53 : decode cX0_pieces 53 = .ok (.iconst 1, 1) := by decide +kernel
theorem dX0_pieces_54 : decode cX0_pieces 54 = .ok (.iand, 1) := by decide +kernel
theorem dX0_pieces_55 : decode cX0_pieces 55 = .ok (.goto 4, 3) := by decide +kernel
theorem dX0_pieces_58 : decode cX0_pieces 58 = .ok (.iconst 1, 1) := by decide +kernel
theorem dX0_pieces_59 : decode cX0_pieces 59 = .ok (.iadd, 1) := by decide +kernel
theorem dX0_pieces_60 : decode cX0_pieces 60 = .ok (.istore 4, 2) := by decide +kernel
theorem dX0_pieces_62 : decode cX0_pieces 62 = .ok (.iinc 5 1, 3) := by decide +kernel
theorem dX0_pieces_65 : decode cX0_pieces 65 = .ok (.goto (-57), 3) := by decide +kernel
theorem dX0_pieces_68 : decode cX0_pieces 68 = .ok (.iload 4, 2) := by decide +kernel
theorem dX0_pieces_70 : decode cX0_pieces 70 = .ok (.ireturn, 1) := by decide +kernel
theorem dX0_shortestOddWalk_0 : decode cX0_shortestOddWalk 0 = .ok (.iconst 1, 1) := by decide +kernel
theorem dX0_shortestOddWalk_1 : decode cX0_shortestOddWalk 1 = .ok (.iload_n 1, 1) := by decide +kernel
theorem dX0_shortestOddWalk_2 : decode cX0_shortestOddWalk 2 = .ok (.ishl, 1) := by decide +kernel
theorem dX0_shortestOddWalk_3 : decode cX0_shortestOddWalk 3 = .ok (.istore_n 2, 1) := by decide +kernel
theorem dX0_shortestOddWalk_4 : decode cX0_shortestOddWalk 4 = .ok (.iconst 1, 1) := by decide +kernel
theorem dX0_shortestOddWalk_5 : decode cX0_shortestOddWalk 5 = .ok (.istore_n 3, 1) := by decide +kernel
theorem dX0_shortestOddWalk_6 : decode cX0_shortestOddWalk 6 = .ok (.iload_n 3, 1) := by decide +kernel
theorem dX0_shortestOddWalk_7 : decode cX0_shortestOddWalk 7 = .ok (.aload_n 0, 1) := by decide +kernel
theorem dX0_shortestOddWalk_8 : decode cX0_shortestOddWalk 8 = .ok (.getfield 9, 3) := by decide +kernel
theorem dX0_shortestOddWalk_11 : decode cX0_shortestOddWalk 11 = .ok (.if_icmp .gt 32, 3) := by decide +kernel
theorem dX0_shortestOddWalk_14 : decode cX0_shortestOddWalk 14 = .ok (.aload_n 0, 1) := by decide +kernel
theorem dX0_shortestOddWalk_15 : decode cX0_shortestOddWalk 15 = .ok (.iload_n 2, 1) := by decide +kernel
theorem dX0_shortestOddWalk_16 : decode cX0_shortestOddWalk 16 = .ok (.invokevirtual 51, 3) := by decide +kernel
theorem dX0_shortestOddWalk_19 : decode cX0_shortestOddWalk 19 = .ok (.istore_n 2, 1) := by decide +kernel
theorem dX0_shortestOddWalk_20 : decode cX0_shortestOddWalk 20 = .ok (.iload_n 3, 1) := by decide +kernel
theorem dX0_shortestOddWalk_21 : decode cX0_shortestOddWalk 21 = .ok (.iconst 2, 1) := by decide +kernel
theorem dX0_shortestOddWalk_22 : decode cX0_shortestOddWalk 22 = .ok (.irem, 1) := by decide +kernel
theorem dX0_shortestOddWalk_23 : decode cX0_shortestOddWalk 23 = .ok (.iconst 1, 1) := by decide +kernel
theorem dX0_shortestOddWalk_24 : decode cX0_shortestOddWalk 24 = .ok (.if_icmp .ne 13, 3) := by decide +kernel
theorem dX0_shortestOddWalk_27 : decode cX0_shortestOddWalk 27 = .ok (.iload_n 2, 1) := by decide +kernel
theorem dX0_shortestOddWalk_28 : decode cX0_shortestOddWalk 28 = .ok (.iload_n 1, 1) := by decide +kernel
theorem dX0_shortestOddWalk_29 : decode cX0_shortestOddWalk 29 = .ok (.ishr, 1) := by decide +kernel
theorem dX0_shortestOddWalk_30 : decode cX0_shortestOddWalk 30 = .ok (.iconst 1, 1) := by decide +kernel
theorem dX0_shortestOddWalk_31 : decode cX0_shortestOddWalk 31 = .ok (.iand, 1) := by decide +kernel
theorem dX0_shortestOddWalk_32 : decode cX0_shortestOddWalk 32 = .ok (.ifCond .eq 5, 3) := by decide +kernel
theorem dX0_shortestOddWalk_35 : decode cX0_shortestOddWalk 35 = .ok (.iload_n 3, 1) := by decide +kernel
theorem dX0_shortestOddWalk_36 : decode cX0_shortestOddWalk 36 = .ok (.ireturn, 1) := by decide +kernel
theorem dX0_shortestOddWalk_37 : decode cX0_shortestOddWalk 37 = .ok (.iinc 3 1, 3) := by decide +kernel
theorem dX0_shortestOddWalk_40 : decode cX0_shortestOddWalk 40 = .ok (.goto (-34), 3) := by decide +kernel
theorem dX0_shortestOddWalk_43 : decode cX0_shortestOddWalk 43 = .ok (.iconst (-1), 1) := by decide +kernel
theorem dX0_shortestOddWalk_44 : decode cX0_shortestOddWalk 44 = .ok (.ireturn, 1) := by decide +kernel
theorem dX0_besides_0 : decode cX0_besides 0 = .ok (.iconst 0, 1) := by decide +kernel
theorem dX0_besides_1 : decode cX0_besides 1 = .ok (.istore_n 2, 1) := by decide +kernel
theorem dX0_besides_2 : decode cX0_besides 2 = .ok (.iconst 0, 1) := by decide +kernel
theorem dX0_besides_3 : decode cX0_besides 3 = .ok (.istore_n 3, 1) := by decide +kernel
theorem dX0_besides_4 : decode cX0_besides 4 = .ok (.iload_n 3, 1) := by decide +kernel
theorem dX0_besides_5 : decode cX0_besides 5 = .ok (.aload_n 0, 1) := by decide +kernel
theorem dX0_besides_6 : decode cX0_besides 6 = .ok (.getfield 9, 3) := by decide +kernel
theorem dX0_besides_9 : decode cX0_besides 9 = .ok (.if_icmp .ge 26, 3) := by decide +kernel
theorem dX0_besides_12 : decode cX0_besides 12 = .ok (.iload_n 1, 1) := by decide +kernel
theorem dX0_besides_13 : decode cX0_besides 13 = .ok (.iload_n 3, 1) := by decide +kernel
theorem dX0_besides_14 : decode cX0_besides 14 = .ok (.ishr, 1) := by decide +kernel
theorem dX0_besides_15 : decode cX0_besides 15 = .ok (.iconst 1, 1) := by decide +kernel
theorem dX0_besides_16 : decode cX0_besides 16 = .ok (.iand, 1) := by decide +kernel
theorem dX0_besides_17 : decode cX0_besides 17 = .ok (.ifCond .eq 12, 3) := by decide +kernel
theorem dX0_besides_20 : decode cX0_besides 20 = .ok (.iload_n 2, 1) := by decide +kernel
theorem dX0_besides_21 : decode cX0_besides 21 = .ok (.aload_n 0, 1) := by decide +kernel
theorem dX0_besides_22 : decode cX0_besides 22 = .ok (.getfield 15, 3) := by decide +kernel
theorem dX0_besides_25 : decode cX0_besides 25 = .ok (.iload_n 3, 1) := by decide +kernel
theorem dX0_besides_26 : decode cX0_besides 26 = .ok (.iaload, 1) := by decide +kernel
theorem dX0_besides_27 : decode cX0_besides 27 = .ok (.ior, 1) := by decide +kernel
theorem dX0_besides_28 : decode cX0_besides 28 = .ok (.istore_n 2, 1) := by decide +kernel
theorem dX0_besides_29 : decode cX0_besides 29 = .ok (.iinc 3 1, 3) := by decide +kernel
theorem dX0_besides_32 : decode cX0_besides 32 = .ok (.goto (-28), 3) := by decide +kernel
theorem dX0_besides_35 : decode cX0_besides 35 = .ok (.iload_n 2, 1) := by decide +kernel
theorem dX0_besides_36 : decode cX0_besides 36 = .ok (.ireturn, 1) := by decide +kernel
theorem dX0_hasNoEnd_0 : decode cX0_hasNoEnd 0 = .ok (.iconst 0, 1) := by decide +kernel
theorem dX0_hasNoEnd_1 : decode cX0_hasNoEnd 1 = .ok (.istore_n 2, 1) := by decide +kernel
theorem dX0_hasNoEnd_2 : decode cX0_hasNoEnd 2 = .ok (.iload_n 2, 1) := by decide +kernel
theorem dX0_hasNoEnd_3 : decode cX0_hasNoEnd 3 = .ok (.aload_n 0, 1) := by decide +kernel
theorem dX0_hasNoEnd_4 : decode cX0_hasNoEnd 4 = .ok (.getfield 9, 3) := by decide +kernel
theorem dX0_hasNoEnd_7 : decode cX0_hasNoEnd 7 = .ok (.if_icmp .ge 32, 3) := by decide +kernel
theorem dX0_hasNoEnd_10 : decode cX0_hasNoEnd 10 = .ok (.iload_n 1, 1) := by decide +kernel
theorem dX0_hasNoEnd_11 : decode cX0_hasNoEnd 11 = .ok (.iload_n 2, 1) := by decide +kernel
theorem dX0_hasNoEnd_12 : decode cX0_hasNoEnd 12 = .ok (.ishr, 1) := by decide +kernel
theorem dX0_hasNoEnd_13 : decode cX0_hasNoEnd 13 = .ok (.iconst 1, 1) := by decide +kernel
theorem dX0_hasNoEnd_14 : decode cX0_hasNoEnd 14 = .ok (.iand, 1) := by decide +kernel
theorem dX0_hasNoEnd_15 : decode cX0_hasNoEnd 15 = .ok (.ifCond .eq 18, 3) := by decide +kernel
theorem dX0_hasNoEnd_18 : decode cX0_hasNoEnd 18 = .ok (.aload_n 0, 1) := by decide +kernel
theorem dX0_hasNoEnd_19 : decode cX0_hasNoEnd 19 = .ok (.getfield 15, 3) := by decide +kernel
theorem dX0_hasNoEnd_22 : decode cX0_hasNoEnd 22 = .ok (.iload_n 2, 1) := by decide +kernel
theorem dX0_hasNoEnd_23 : decode cX0_hasNoEnd 23 = .ok (.iaload, 1) := by decide +kernel
theorem dX0_hasNoEnd_24 : decode cX0_hasNoEnd 24 = .ok (.invokestatic 38, 3) := by decide +kernel
theorem dX0_hasNoEnd_27 : decode cX0_hasNoEnd 27 = .ok (.iconst 2, 1) := by decide +kernel
theorem dX0_hasNoEnd_28 : decode cX0_hasNoEnd 28 = .ok (.if_icmp .ge 5, 3) := by decide +kernel
theorem dX0_hasNoEnd_31 : decode cX0_hasNoEnd 31 = .ok (.iconst 0, 1) := by decide +kernel
theorem dX0_hasNoEnd_32 : decode cX0_hasNoEnd 32 = .ok (.ireturn, 1) := by decide +kernel
theorem dX0_hasNoEnd_33 : decode cX0_hasNoEnd 33 = .ok (.iinc 2 1, 3) := by decide +kernel
theorem dX0_hasNoEnd_36 : decode cX0_hasNoEnd 36 = .ok (.goto (-34), 3) := by decide +kernel
theorem dX0_hasNoEnd_39 : decode cX0_hasNoEnd 39 = .ok (.iconst 1, 1) := by decide +kernel
theorem dX0_hasNoEnd_40 : decode cX0_hasNoEnd 40 = .ok (.ireturn, 1) := by decide +kernel
theorem dX1_init_0 : decode cX1_init 0 = .ok (.aload_n 0, 1) := by decide +kernel
theorem dX1_init_1 : decode cX1_init 1 = .ok (.invokespecial 3, 3) := by decide +kernel
theorem dX1_init_4 : decode cX1_init 4 = .ok (.aload_n 0, 1) := by decide +kernel
theorem dX1_init_5 : decode cX1_init 5 = .ok (.iconst 4, 1) := by decide +kernel
theorem dX1_init_6 : decode cX1_init 6 = .ok (.bipush 12, 2) := by decide +kernel
theorem dX1_init_8 : decode cX1_init 8 = .ok (.multianewarray 9 2, 4) := by decide +kernel
theorem dX1_init_12 : decode cX1_init 12 = .ok (.putfield 11, 3) := by decide +kernel
theorem dX1_init_15 : decode cX1_init 15 = .ok (.aload_n 0, 1) := by decide +kernel
theorem dX1_init_16 : decode cX1_init 16 = .ok (.iconst 4, 1) := by decide +kernel
theorem dX1_init_17 : decode cX1_init 17 = .ok (.bipush 12, 2) := by decide +kernel
theorem dX1_init_19 : decode cX1_init 19 = .ok (.multianewarray 9 2, 4) := by decide +kernel
theorem dX1_init_23 : decode cX1_init 23 = .ok (.putfield 16, 3) := by decide +kernel
theorem dX1_init_26 : decode cX1_init 26 = .ok (.aload_n 0, 1) := by decide +kernel
theorem dX1_init_27 : decode cX1_init 27 = .ok (.iconst 0, 1) := by decide +kernel
theorem dX1_init_28 : decode cX1_init 28 = .ok (.putfield 19, 3) := by decide +kernel
theorem dX1_init_31 : decode cX1_init 31 = .ok (.aload_n 0, 1) := by decide +kernel
theorem dX1_init_32 : decode cX1_init 32 = .ok (.iconst 0, 1) := by decide +kernel
theorem dX1_init_33 : decode cX1_init 33 = .ok (.putfield 23, 3) := by decide +kernel
theorem dX1_init_36 : decode cX1_init 36 = .ok (.return_, 1) := by decide +kernel
theorem dX1_clear_0 : decode cX1_clear 0 = .ok (.aload_n 0, 1) := by decide +kernel
theorem dX1_clear_1 : decode cX1_clear 1 = .ok (.iconst 0, 1) := by decide +kernel
theorem dX1_clear_2 : decode cX1_clear 2 = .ok (.putfield 23, 3) := by decide +kernel
theorem dX1_clear_5 : decode cX1_clear 5 = .ok (.return_, 1) := by decide +kernel
theorem dX1_save_0 : decode cX1_save 0 = .ok (.aload_n 0, 1) := by decide +kernel
theorem dX1_save_1 : decode cX1_save 1 = .ok (.aload_n 0, 1) := by decide +kernel
theorem dX1_save_2 : decode cX1_save 2 = .ok (.getfield 19, 3) := by decide +kernel
theorem dX1_save_5 : decode cX1_save 5 = .ok (.iconst 1, 1) := by decide +kernel
theorem dX1_save_6 : decode cX1_save 6 = .ok (.iadd, 1) := by decide +kernel
theorem dX1_save_7 : decode cX1_save 7 = .ok (.iconst 4, 1) := by decide +kernel
theorem dX1_save_8 : decode cX1_save 8 = .ok (.irem, 1) := by decide +kernel
theorem dX1_save_9 : decode cX1_save 9 = .ok (.putfield 19, 3) := by decide +kernel
theorem dX1_save_12 : decode cX1_save 12 = .ok (.aload_n 1, 1) := by decide +kernel
theorem dX1_save_13 : decode cX1_save 13 = .ok (.getfield 26, 3) := by decide +kernel
theorem dX1_save_16 : decode cX1_save 16 = .ok (.iconst 0, 1) := by decide +kernel
theorem dX1_save_17 : decode cX1_save 17 = .ok (.aload_n 0, 1) := by decide +kernel
theorem dX1_save_18 : decode cX1_save 18 = .ok (.getfield 11, 3) := by decide +kernel
theorem dX1_save_21 : decode cX1_save 21 = .ok (.aload_n 0, 1) := by decide +kernel
theorem dX1_save_22 : decode cX1_save 22 = .ok (.getfield 19, 3) := by decide +kernel
theorem dX1_save_25 : decode cX1_save 25 = .ok (.aaload, 1) := by decide +kernel
theorem dX1_save_26 : decode cX1_save 26 = .ok (.iconst 0, 1) := by decide +kernel
theorem dX1_save_27 : decode cX1_save 27 = .ok (.bipush 12, 2) := by decide +kernel
theorem dX1_save_29 : decode cX1_save 29 = .ok (.invokestatic 32, 3) := by decide +kernel
theorem dX1_save_32 : decode cX1_save 32 = .ok (.aload_n 2, 1) := by decide +kernel
theorem dX1_save_33 : decode cX1_save 33 = .ok (.getfield 38, 3) := by decide +kernel
theorem dX1_save_36 : decode cX1_save 36 = .ok (.iconst 0, 1) := by decide +kernel
theorem dX1_save_37 : decode cX1_save 37 = .ok (.aload_n 0, 1) := by decide +kernel
theorem dX1_save_38 : decode cX1_save 38 = .ok (.getfield 16, 3) := by decide +kernel
theorem dX1_save_41 : decode cX1_save 41 = .ok (.aload_n 0, 1) := by decide +kernel
theorem dX1_save_42 : decode cX1_save 42 = .ok (.getfield 19, 3) := by decide +kernel
theorem dX1_save_45 : decode cX1_save 45 = .ok (.aaload, 1) := by decide +kernel
theorem dX1_save_46 : decode cX1_save 46 = .ok (.iconst 0, 1) := by decide +kernel
theorem dX1_save_47 : decode cX1_save 47 = .ok (.bipush 12, 2) := by decide +kernel
theorem dX1_save_49 : decode cX1_save 49 = .ok (.invokestatic 32, 3) := by decide +kernel
theorem dX1_save_52 : decode cX1_save 52 = .ok (.aload_n 0, 1) := by decide +kernel
theorem dX1_save_53 : decode cX1_save 53 = .ok (.aload_n 0, 1) := by decide +kernel
theorem dX1_save_54 : decode cX1_save 54 = .ok (.getfield 23, 3) := by decide +kernel
theorem dX1_save_57 : decode cX1_save 57 = .ok (.iconst 1, 1) := by decide +kernel
theorem dX1_save_58 : decode cX1_save 58 = .ok (.iadd, 1) := by decide +kernel
theorem dX1_save_59 : decode cX1_save 59 = .ok (.iconst 4, 1) := by decide +kernel
theorem dX1_save_60 : decode cX1_save 60 = .ok (.invokestatic 43, 3) := by decide +kernel
theorem dX1_save_63 : decode cX1_save 63 = .ok (.putfield 23, 3) := by decide +kernel
theorem dX1_save_66 : decode cX1_save 66 = .ok (.return_, 1) := by decide +kernel
theorem dX1_restore_0 : decode cX1_restore 0 = .ok (.aload_n 1, 1) := by decide +kernel
theorem dX1_restore_1 : decode cX1_restore 1 = .ok (.aload_n 0, 1) := by decide +kernel
theorem dX1_restore_2 : decode cX1_restore 2 = .ok (.getfield 11, 3) := by decide +kernel
theorem dX1_restore_5 : decode cX1_restore 5 = .ok (.aload_n 0, 1) := by decide +kernel
theorem dX1_restore_6 : decode cX1_restore 6 = .ok (.getfield 19, 3) := by decide +kernel
theorem dX1_restore_9 : decode cX1_restore 9 = .ok (.aaload, 1) := by decide +kernel
theorem dX1_restore_10 : decode cX1_restore 10 = .ok (.invokevirtual 49, 3) := by decide +kernel
theorem dX1_restore_13 : decode cX1_restore 13 = .ok (.aload_n 2, 1) := by decide +kernel
theorem dX1_restore_14 : decode cX1_restore 14 = .ok (.aload_n 0, 1) := by decide +kernel
theorem dX1_restore_15 : decode cX1_restore 15 = .ok (.getfield 16, 3) := by decide +kernel
theorem dX1_restore_18 : decode cX1_restore 18 = .ok (.aload_n 0, 1) := by decide +kernel
theorem dX1_restore_19 : decode cX1_restore 19 = .ok (.getfield 19, 3) := by decide +kernel
theorem dX1_restore_22 : decode cX1_restore 22 = .ok (.aaload, 1) := by decide +kernel
theorem dX1_restore_23 : decode cX1_restore 23 = .ok (.invokevirtual 53, 3) := by decide +kernel
theorem dX1_restore_26 : decode cX1_restore 26 = .ok (.aload_n 0, 1) := by decide +kernel
theorem dX1_restore_27 : decode cX1_restore 27 = .ok (.aload_n 0, 1) := by decide +kernel
theorem dX1_restore_28 : decode cX1_restore 28 = .ok (.getfield 19, 3) := by decide +kernel
theorem dX1_restore_31 : decode cX1_restore 31 = .ok (.iconst 4, 1) := by decide +kernel
theorem dX1_restore_32 : decode cX1_restore 32 = .ok (.iadd, 1) := by decide +kernel
theorem dX1_restore_33 : decode cX1_restore 33 = .ok (.iconst 1, 1) := by decide +kernel
theorem dX1_restore_34 : decode cX1_restore 34 = .ok (.isub, 1) := by decide +kernel
theorem dX1_restore_35 : decode cX1_restore 35 = .ok (.iconst 4, 1) := by decide +kernel
theorem dX1_restore_36 : decode cX1_restore 36 = .ok (.irem, 1) := by decide +kernel
theorem dX1_restore_37 : decode cX1_restore 37 = .ok (.putfield 19, 3) := by decide +kernel
theorem dX1_restore_40 : decode cX1_restore 40 = .ok (.aload_n 0, 1) := by decide +kernel
theorem dX1_restore_41 : decode cX1_restore 41 = .ok (.dup, 1) := by decide +kernel
theorem dX1_restore_42 : decode cX1_restore 42 = .ok (.getfield 23, 3) := by decide +kernel
theorem dX1_restore_45 : decode cX1_restore 45 = .ok (.iconst 1, 1) := by decide +kernel
theorem dX1_restore_46 : decode cX1_restore 46 = .ok (.isub, 1) := by decide +kernel
theorem dX1_restore_47 : decode cX1_restore 47 = .ok (.putfield 23, 3) := by decide +kernel
theorem dX1_restore_50 : decode cX1_restore 50 = .ok (.return_, 1) := by decide +kernel
theorem dX2_init_0 : decode cX2_init 0 = .ok (.aload_n 0, 1) := by decide +kernel
theorem dX2_init_1 : decode cX2_init 1 = .ok (.invokespecial 3, 3) := by decide +kernel
theorem dX2_init_4 : decode cX2_init 4 = .ok (.aload_n 0, 1) := by decide +kernel
theorem dX2_init_5 : decode cX2_init 5 = .ok (.bipush 60, 2) := by decide +kernel
theorem dX2_init_7 : decode cX2_init 7 = .ok (.newarray .int, 2) := by decide +kernel
theorem dX2_init_9 : decode cX2_init 9 = .ok (.putfield 9, 3) := by decide +kernel
theorem dX2_init_12 : decode cX2_init 12 = .ok (.aload_n 0, 1) := by decide +kernel
theorem dX2_init_13 : decode cX2_init 13 = .ok (.iconst 0, 1) := by decide +kernel
theorem dX2_init_14 : decode cX2_init 14 = .ok (.putfield 15, 3) := by decide +kernel
theorem dX2_init_17 : decode cX2_init 17 = .ok (.return_, 1) := by decide +kernel
theorem dX2_add_0 : decode cX2_add 0 = .ok (.aload_n 0, 1) := by decide +kernel
theorem dX2_add_1 : decode cX2_add 1 = .ok (.getfield 15, 3) := by decide +kernel
theorem dX2_add_4 : decode cX2_add 4 = .ok (.bipush 60, 2) := by decide +kernel
theorem dX2_add_6 : decode cX2_add 6 = .ok (.if_icmp .ge 23, 3) := by decide +kernel
theorem dX2_add_9 : decode cX2_add 9 = .ok (.aload_n 0, 1) := by decide +kernel
theorem dX2_add_10 : decode cX2_add 10 = .ok (.getfield 9, 3) := by decide +kernel
theorem dX2_add_13 : decode cX2_add 13 = .ok (.aload_n 0, 1) := by decide +kernel
theorem dX2_add_14 : decode cX2_add 14 = .ok (.getfield 15, 3) := by decide +kernel
theorem dX2_add_17 : decode cX2_add 17 = .ok (.iload_n 1, 1) := by decide +kernel
theorem dX2_add_18 : decode cX2_add 18 = .ok (.iastore, 1) := by decide +kernel
theorem dX2_add_19 : decode cX2_add 19 = .ok (.aload_n 0, 1) := by decide +kernel
theorem dX2_add_20 : decode cX2_add 20 = .ok (.dup, 1) := by decide +kernel
theorem dX2_add_21 : decode cX2_add 21 = .ok (.getfield 15, 3) := by decide +kernel
theorem dX2_add_24 : decode cX2_add 24 = .ok (.iconst 1, 1) := by decide +kernel
theorem dX2_add_25 : decode cX2_add 25 = .ok (.iadd, 1) := by decide +kernel
theorem dX2_add_26 : decode cX2_add 26 = .ok (.putfield 15, 3) := by decide +kernel
theorem dX2_add_29 : decode cX2_add 29 = .ok (.return_, 1) := by decide +kernel
theorem dX2_errorPlace_0 : decode cX2_errorPlace 0 = .ok (.iconst 0, 1) := by decide +kernel
theorem dX2_errorPlace_1 : decode cX2_errorPlace 1 = .ok (.istore_n 2, 1) := by decide +kernel
theorem dX2_errorPlace_2 : decode cX2_errorPlace 2 = .ok (.iconst 0, 1) := by decide +kernel
theorem dX2_errorPlace_3 : decode cX2_errorPlace 3 = .ok (.istore_n 3, 1) := by decide +kernel
theorem dX2_errorPlace_4 : decode cX2_errorPlace 4 = .ok (.iload_n 3, 1) := by decide +kernel
theorem dX2_errorPlace_5 : decode cX2_errorPlace 5 = .ok (.aload_n 0, 1) := by decide +kernel
theorem dX2_errorPlace_6 : decode cX2_errorPlace 6 = .ok (.getfield 15, 3) := by decide +kernel
theorem dX2_errorPlace_9 : decode cX2_errorPlace 9 = .ok (.if_icmp .ge 24, 3) := by decide +kernel
theorem dX2_errorPlace_12 : decode cX2_errorPlace 12 = .ok (.aload_n 0, 1) := by decide +kernel
theorem dX2_errorPlace_13 : decode cX2_errorPlace 13 = .ok (.iload_n 3, 1) := by decide +kernel
theorem dX2_errorPlace_14 : decode cX2_errorPlace 14 = .ok (.iload_n 2, 1) := by decide +kernel
theorem dX2_errorPlace_15 : decode cX2_errorPlace 15 = .ok (.iload_n 1, 1) := by decide +kernel
theorem dX2_errorPlace_16 : decode cX2_errorPlace 16 = .ok (.invokevirtual 19, 3) := by decide +kernel
theorem dX2_errorPlace_19 : decode cX2_errorPlace 19 = .ok (.istore_n 2, 1) := by decide +kernel
theorem dX2_errorPlace_20 : decode cX2_errorPlace 20 = .ok (.iload_n 2, 1) := by decide +kernel
theorem dX2_errorPlace_21 : decode cX2_errorPlace 21 = .ok (.iconst 4, 1) := by decide +kernel
theorem dX2_errorPlace_22 : decode cX2_errorPlace 22 = .ok (.if_icmp .ne 5, 3) := by decide +kernel
theorem dX2_errorPlace_25 : decode cX2_errorPlace 25 = .ok (.iload_n 3, 1) := by decide +kernel
theorem dX2_errorPlace_26 : decode cX2_errorPlace 26 = .ok (.ireturn, 1) := by decide +kernel
theorem dX2_errorPlace_27 : decode cX2_errorPlace 27 = .ok (.iinc 3 1, 3) := by decide +kernel
theorem dX2_errorPlace_30 : decode cX2_errorPlace 30 = .ok (.goto (-26), 3) := by decide +kernel
theorem dX2_errorPlace_33 : decode cX2_errorPlace 33 = .ok (.aload_n 0, 1) := by decide +kernel
theorem dX2_errorPlace_34 : decode cX2_errorPlace 34 = .ok (.getfield 15, 3) := by decide +kernel
theorem dX2_errorPlace_37 : decode cX2_errorPlace 37 = .ok (.ireturn, 1) := by decide +kernel
theorem dX2_isComplete_0 : decode cX2_isComplete 0 = .ok (.iconst 0, 1) := by decide +kernel
theorem dX2_isComplete_1 : decode cX2_isComplete 1 = .ok (.istore_n 2, 1) := by decide +kernel
theorem dX2_isComplete_2 : decode cX2_isComplete 2 = .ok (.iconst 0, 1) := by decide +kernel
theorem dX2_isComplete_3 : decode cX2_isComplete 3 = .ok (.istore_n 3, 1) := by decide +kernel
theorem dX2_isComplete_4 : decode cX2_isComplete 4 = .ok (.iload_n 3, 1) := by decide +kernel
theorem dX2_isComplete_5 : decode cX2_isComplete 5 = .ok (.aload_n 0, 1) := by decide +kernel
theorem dX2_isComplete_6 : decode cX2_isComplete 6 = .ok (.getfield 15, 3) := by decide +kernel
theorem dX2_isComplete_9 : decode cX2_isComplete 9 = .ok (.if_icmp .ge 17, 3) := by decide +kernel
theorem dX2_isComplete_12 : decode cX2_isComplete 12 = .ok (.aload_n 0, 1) := by decide +kernel
theorem dX2_isComplete_13 : decode cX2_isComplete 13 = .ok (.iload_n 3, 1) := by decide +kernel
theorem dX2_isComplete_14 : decode cX2_isComplete 14 = .ok (.iload_n 2, 1) := by decide +kernel
theorem dX2_isComplete_15 : decode cX2_isComplete 15 = .ok (.iload_n 1, 1) := by decide +kernel
theorem dX2_isComplete_16 : decode cX2_isComplete 16 = .ok (.invokevirtual 19, 3) := by decide +kernel
theorem dX2_isComplete_19 : decode cX2_isComplete 19 = .ok (.istore_n 2, 1) := by decide +kernel
theorem dX2_isComplete_20 : decode cX2_isComplete 20 = .ok (.iinc 3 1, 3) := by decide +kernel
theorem dX2_isComplete_23 : decode cX2_isComplete 23 = .ok (.goto (-19), 3) := by decide +kernel
theorem dX2_isComplete_26 : decode cX2_isComplete 26 = .ok (.iload_n 2, 1) := by decide +kernel
theorem dX2_isComplete_27 : decode cX2_isComplete 27 = .ok (.iconst 2, 1) := by decide +kernel
theorem dX2_isComplete_28 : decode cX2_isComplete 28 = .ok (.if_icmp .eq 8, 3) := by decide +kernel
theorem dX2_isComplete_31 : decode cX2_isComplete 31 = .ok (.iload_n 2, 1) := by decide +kernel
theorem dX2_isComplete_32 : decode cX2_isComplete 32 = .ok (.iconst 3, 1) := by decide +kernel
theorem dX2_isComplete_33 : decode cX2_isComplete 33 = .ok (.if_icmp .ne 7, 3) := by decide +kernel
theorem dX2_isComplete_36 : decode cX2_isComplete 36 = .ok (.iconst 1, 1) := by decide +kernel
theorem dX2_isComplete_37 : decode cX2_isComplete 37 = .ok (.goto 4, 3) := by decide +kernel
theorem dX2_isComplete_40 : decode cX2_isComplete 40 = .ok (.iconst 0, 1) := by decide +kernel
theorem dX2_isComplete_41 : decode cX2_isComplete 41 = .ok (.ireturn, 1) := by decide +kernel
theorem dX2_stateAt_0 : decode cX2_stateAt 0 = .ok (.aload_n 0, 1) := by decide +kernel
theorem dX2_stateAt_1 : decode cX2_stateAt 1 = .ok (.iload_n 1, 1) := by decide +kernel
theorem dX2_stateAt_2 : decode cX2_stateAt 2 = .ok (.invokevirtual 23, 3) := by decide +kernel
theorem dX2_stateAt_5 : decode cX2_stateAt 5 = .ok (.istore 4, 2) := by decide +kernel
theorem dX2_stateAt_7 : decode cX2_stateAt 7 = .ok (.aload_n 0, 1) := by decide +kernel
theorem dX2_stateAt_8 : decode cX2_stateAt 8 = .ok (.getfield 9, 3) := by decide +kernel
theorem dX2_stateAt_11 : decode cX2_stateAt 11 = .ok (.iload_n 1, 1) := by decide +kernel
theorem dX2_stateAt_12 : decode cX2_stateAt 12 = .ok (.iaload, 1) := by decide +kernel
theorem dX2_stateAt_13 : decode cX2_stateAt 13 = .ok (.bipush 44, 2) := by decide +kernel
theorem dX2_stateAt_15 : decode cX2_stateAt 15 = .ok (.if_icmp .ne 7, 3) := by decide +kernel
theorem dX2_stateAt_18 : decode cX2_stateAt 18 = .ok (.iconst 1, 1) := by decide +kernel
theorem dX2_stateAt_19 : decode cX2_stateAt 19 = .ok (.goto 4, 3) := by decide +kernel
theorem dX2_stateAt_22 : decode cX2_stateAt 22 = .ok (.iconst 0, 1) := by decide +kernel
theorem dX2_stateAt_23 : decode cX2_stateAt 23 = .ok (.istore 5, 2) := by decide +kernel
theorem dX2_stateAt_25 : decode cX2_stateAt 25 = .ok (.iload_n 2, 1) := by decide +kernel
theorem dX2_stateAt_26 : decode cX2_stateAt 26 = .ok (.tableswitch 114 0 3 #[30, 49, 77, 103], 30) := by decide +kernel
theorem dX2_stateAt_56 : decode cX2_stateAt 56 = .ok (.iload 4, 2) := by decide +kernel
theorem dX2_stateAt_58 : decode cX2_stateAt 58 = .ok (.ifCond .lt 15, 3) := by decide +kernel
theorem dX2_stateAt_61 : decode cX2_stateAt 61 = .ok (.iload 4, 2) := by decide +kernel
theorem dX2_stateAt_63 : decode cX2_stateAt 63 = .ok (.iload_n 3, 1) := by decide +kernel
theorem dX2_stateAt_64 : decode cX2_stateAt 64 = .ok (.iconst 1, 1) := by decide +kernel
theorem dX2_stateAt_65 : decode cX2_stateAt 65 = .ok (.isub, 1) := by decide +kernel
theorem dX2_stateAt_66 : decode cX2_stateAt 66 = .ok (.if_icmp .ge 7, 3) := by decide +kernel
theorem dX2_stateAt_69 : decode cX2_stateAt 69 = .ok (.iconst 1, 1) := by decide +kernel
theorem dX2_stateAt_70 : decode cX2_stateAt 70 = .ok (.goto 4, 3) := by decide +kernel
theorem dX2_stateAt_73 : decode cX2_stateAt 73 = .ok (.iconst 4, 1) := by decide +kernel
theorem dX2_stateAt_74 : decode cX2_stateAt 74 = .ok (.ireturn, 1) := by decide +kernel
theorem dX2_stateAt_75 : decode cX2_stateAt 75 = .ok (.iload_n 1, 1) := by decide +kernel
theorem dX2_stateAt_76 : decode cX2_stateAt 76 = .ok (.ifCond .le 25, 3) := by decide +kernel
theorem dX2_stateAt_79 : decode cX2_stateAt 79 = .ok (.iload 4, 2) := by decide +kernel
theorem dX2_stateAt_81 : decode cX2_stateAt 81 = .ok (.aload_n 0, 1) := by decide +kernel
theorem dX2_stateAt_82 : decode cX2_stateAt 82 = .ok (.iload_n 1, 1) := by decide +kernel
theorem dX2_stateAt_83 : decode cX2_stateAt 83 = .ok (.iconst 1, 1) := by decide +kernel
theorem dX2_stateAt_84 : decode cX2_stateAt 84 = .ok (.isub, 1) := by decide +kernel
theorem dX2_stateAt_85 : decode cX2_stateAt 85 = .ok (.invokevirtual 23, 3) := by decide +kernel
theorem dX2_stateAt_88 : decode cX2_stateAt 88 = .ok (.if_icmp .le 13, 3) := by decide +kernel
theorem dX2_stateAt_91 : decode cX2_stateAt 91 = .ok (.iload 4, 2) := by decide +kernel
theorem dX2_stateAt_93 : decode cX2_stateAt 93 = .ok (.iload_n 3, 1) := by decide +kernel
theorem dX2_stateAt_94 : decode cX2_stateAt 94 = .ok (.if_icmp .ge 7, 3) := by decide +kernel
theorem dX2_stateAt_97 : decode cX2_stateAt 97 = .ok (.iconst 2, 1) := by decide +kernel
theorem dX2_stateAt_98 : decode cX2_stateAt 98 = .ok (.goto 4, 3) := by decide +kernel
theorem dX2_stateAt_101 : decode cX2_stateAt 101 = .ok (.iconst 4, 1) := by decide +kernel
theorem dX2_stateAt_102 : decode cX2_stateAt 102 = .ok (.ireturn, 1) := by decide +kernel
theorem dX2_stateAt_103 : decode cX2_stateAt 103 = .ok (.iload 5, 2) := by decide +kernel
theorem dX2_stateAt_105 : decode cX2_stateAt 105 = .ok (.ifCond .eq 7, 3) := by decide +kernel
theorem dX2_stateAt_108 : decode cX2_stateAt 108 = .ok (.iconst 0, 1) := by decide +kernel
theorem dX2_stateAt_109 : decode cX2_stateAt 109 = .ok (.goto 19, 3) := by decide +kernel
theorem dX2_stateAt_112 : decode cX2_stateAt 112 = .ok (.aload_n 0, 1) := by decide +kernel
theorem dX2_stateAt_113 : decode cX2_stateAt 113 = .ok (.getfield 9, 3) := by decide +kernel
theorem dX2_stateAt_116 : decode cX2_stateAt 116 = .ok (.iload_n 1, 1) := by decide +kernel
theorem dX2_stateAt_117 : decode cX2_stateAt 117 = .ok (.iaload, 1) := by decide +kernel
theorem dX2_stateAt_118 : decode cX2_stateAt 118 = .ok (.bipush 33, 2) := by decide +kernel
theorem dX2_stateAt_120 : decode cX2_stateAt 120 = .ok (.if_icmp .ne 7, 3) := by decide +kernel
theorem dX2_stateAt_123 : decode cX2_stateAt 123 = .ok (.iconst 3, 1) := by decide +kernel
theorem dX2_stateAt_124 : decode cX2_stateAt 124 = .ok (.goto 4, 3) := by decide +kernel
theorem dX2_stateAt_127 : decode cX2_stateAt 127 = .ok (.iconst 4, 1) := by decide +kernel
theorem dX2_stateAt_128 : decode cX2_stateAt 128 = .ok (.ireturn, 1) := by decide +kernel
theorem dX2_stateAt_129 : decode cX2_stateAt 129 = .ok (.iload 5, 2) := by decide +kernel
theorem dX2_stateAt_131 : decode cX2_stateAt 131 = .ok (.ifCond .eq 7, 3) := by decide +kernel
theorem dX2_stateAt_134 : decode cX2_stateAt 134 = .ok (.iconst 0, 1) := by decide +kernel
theorem dX2_stateAt_135 : decode cX2_stateAt 135 = .ok (.goto 4, 3) := by decide +kernel
theorem dX2_stateAt_138 : decode cX2_stateAt 138 = .ok (.iconst 4, 1) := by decide +kernel
theorem dX2_stateAt_139 : decode cX2_stateAt 139 = .ok (.ireturn, 1) := by decide +kernel
theorem dX2_stateAt_140 : decode cX2_stateAt 140 = .ok (.iconst 4, 1) := by decide +kernel
theorem dX2_stateAt_141 : decode cX2_stateAt 141 = .ok (.ireturn, 1) := by decide +kernel
theorem dX2_nodeAt_0 : decode cX2_nodeAt 0 = .ok (.aload_n 0, 1) := by decide +kernel
theorem dX2_nodeAt_1 : decode cX2_nodeAt 1 = .ok (.getfield 9, 3) := by decide +kernel
theorem dX2_nodeAt_4 : decode cX2_nodeAt 4 = .ok (.iload_n 1, 1) := by decide +kernel
theorem dX2_nodeAt_5 : decode cX2_nodeAt 5 = .ok (.iaload, 1) := by decide +kernel
theorem dX2_nodeAt_6 : decode cX2_nodeAt 6 = .ok (.bipush 97, 2) := by decide +kernel
theorem dX2_nodeAt_8 : decode cX2_nodeAt 8 = .ok (.isub, 1) := by decide +kernel
theorem dX2_nodeAt_9 : decode cX2_nodeAt 9 = .ok (.ireturn, 1) := by decide +kernel
theorem dX2_isMarked_0 : decode cX2_isMarked 0 = .ok (.iload_n 1, 1) := by decide +kernel
theorem dX2_isMarked_1 : decode cX2_isMarked 1 = .ok (.iconst 2, 1) := by decide +kernel
theorem dX2_isMarked_2 : decode cX2_isMarked 2 = .ok (.iadd, 1) := by decide +kernel
theorem dX2_isMarked_3 : decode cX2_isMarked 3 = .ok (.aload_n 0, 1) := by decide +kernel
theorem dX2_isMarked_4 : decode cX2_isMarked 4 = .ok (.getfield 15, 3) := by decide +kernel
theorem dX2_isMarked_7 : decode cX2_isMarked 7 = .ok (.if_icmp .ge 20, 3) := by decide +kernel
theorem dX2_isMarked_10 : decode cX2_isMarked 10 = .ok (.aload_n 0, 1) := by decide +kernel
theorem dX2_isMarked_11 : decode cX2_isMarked 11 = .ok (.getfield 9, 3) := by decide +kernel
theorem dX2_isMarked_14 : decode cX2_isMarked 14 = .ok (.iload_n 1, 1) := by decide +kernel
theorem dX2_isMarked_15 : decode cX2_isMarked 15 = .ok (.iconst 2, 1) := by decide +kernel
theorem dX2_isMarked_16 : decode cX2_isMarked 16 = .ok (.iadd, 1) := by decide +kernel
theorem dX2_isMarked_17 : decode cX2_isMarked 17 = .ok (.iaload, 1) := by decide +kernel
theorem dX2_isMarked_18 : decode cX2_isMarked 18 = .ok (.bipush 33, 2) := by decide +kernel
theorem dX2_isMarked_20 : decode cX2_isMarked 20 = .ok (.if_icmp .ne 7, 3) := by decide +kernel
theorem dX2_isMarked_23 : decode cX2_isMarked 23 = .ok (.iconst 1, 1) := by decide +kernel
theorem dX2_isMarked_24 : decode cX2_isMarked 24 = .ok (.goto 4, 3) := by decide +kernel
theorem dX2_isMarked_27 : decode cX2_isMarked 27 = .ok (.iconst 0, 1) := by decide +kernel
theorem dX2_isMarked_28 : decode cX2_isMarked 28 = .ok (.ireturn, 1) := by decide +kernel
theorem dX3_init_0 : decode cX3_init 0 = .ok (.aload_n 0, 1) := by decide +kernel
theorem dX3_init_1 : decode cX3_init 1 = .ok (.invokespecial 3, 3) := by decide +kernel
theorem dX3_init_4 : decode cX3_init 4 = .ok (.aload_n 0, 1) := by decide +kernel
theorem dX3_init_5 : decode cX3_init 5 = .ok (.bipush 12, 2) := by decide +kernel
theorem dX3_init_7 : decode cX3_init 7 = .ok (.newarray .int, 2) := by decide +kernel
theorem dX3_init_9 : decode cX3_init 9 = .ok (.putfield 9, 3) := by decide +kernel
theorem dX3_init_12 : decode cX3_init 12 = .ok (.aload_n 0, 1) := by decide +kernel
theorem dX3_init_13 : decode cX3_init 13 = .ok (.getfield 9, 3) := by decide +kernel
theorem dX3_init_16 : decode cX3_init 16 = .ok (.iconst (-1), 1) := by decide +kernel
theorem dX3_init_17 : decode cX3_init 17 = .ok (.invokestatic 15, 3) := by decide +kernel
theorem dX3_init_20 : decode cX3_init 20 = .ok (.return_, 1) := by decide +kernel
theorem dX3_clear_0 : decode cX3_clear 0 = .ok (.aload_n 0, 1) := by decide +kernel
theorem dX3_clear_1 : decode cX3_clear 1 = .ok (.getfield 9, 3) := by decide +kernel
theorem dX3_clear_4 : decode cX3_clear 4 = .ok (.iconst (-1), 1) := by decide +kernel
theorem dX3_clear_5 : decode cX3_clear 5 = .ok (.invokestatic 15, 3) := by decide +kernel
theorem dX3_clear_8 : decode cX3_clear 8 = .ok (.return_, 1) := by decide +kernel
theorem dX3_copyFrom_0 : decode cX3_copyFrom 0 = .ok (.aload_n 1, 1) := by decide +kernel
theorem dX3_copyFrom_1 : decode cX3_copyFrom 1 = .ok (.iconst 0, 1) := by decide +kernel
theorem dX3_copyFrom_2 : decode cX3_copyFrom 2 = .ok (.aload_n 0, 1) := by decide +kernel
theorem dX3_copyFrom_3 : decode cX3_copyFrom 3 = .ok (.getfield 9, 3) := by decide +kernel
theorem dX3_copyFrom_6 : decode cX3_copyFrom 6 = .ok (.iconst 0, 1) := by decide +kernel
theorem dX3_copyFrom_7 : decode cX3_copyFrom 7 = .ok (.bipush 12, 2) := by decide +kernel
theorem dX3_copyFrom_9 : decode cX3_copyFrom 9 = .ok (.invokestatic 21, 3) := by decide +kernel
theorem dX3_copyFrom_12 : decode cX3_copyFrom 12 = .ok (.return_, 1) := by decide +kernel
theorem dX3_isExposed_0 : decode cX3_isExposed 0 = .ok (.aload_n 0, 1) := by decide +kernel
theorem dX3_isExposed_1 : decode cX3_isExposed 1 = .ok (.getfield 9, 3) := by decide +kernel
theorem dX3_isExposed_4 : decode cX3_isExposed 4 = .ok (.iload_n 1, 1) := by decide +kernel
theorem dX3_isExposed_5 : decode cX3_isExposed 5 = .ok (.iaload, 1) := by decide +kernel
theorem dX3_isExposed_6 : decode cX3_isExposed 6 = .ok (.iconst (-1), 1) := by decide +kernel
theorem dX3_isExposed_7 : decode cX3_isExposed 7 = .ok (.if_icmp .ne 7, 3) := by decide +kernel
theorem dX3_isExposed_10 : decode cX3_isExposed 10 = .ok (.iconst 1, 1) := by decide +kernel
theorem dX3_isExposed_11 : decode cX3_isExposed 11 = .ok (.goto 4, 3) := by decide +kernel
theorem dX3_isExposed_14 : decode cX3_isExposed 14 = .ok (.iconst 0, 1) := by decide +kernel
theorem dX3_isExposed_15 : decode cX3_isExposed 15 = .ok (.ireturn, 1) := by decide +kernel
theorem dX3_has_0 : decode cX3_has 0 = .ok (.aload_n 0, 1) := by decide +kernel
theorem dX3_has_1 : decode cX3_has 1 = .ok (.getfield 9, 3) := by decide +kernel
theorem dX3_has_4 : decode cX3_has 4 = .ok (.iload_n 1, 1) := by decide +kernel
theorem dX3_has_5 : decode cX3_has 5 = .ok (.iaload, 1) := by decide +kernel
theorem dX3_has_6 : decode cX3_has 6 = .ok (.iload_n 2, 1) := by decide +kernel
theorem dX3_has_7 : decode cX3_has 7 = .ok (.if_icmp .ne 7, 3) := by decide +kernel
theorem dX3_has_10 : decode cX3_has 10 = .ok (.iconst 1, 1) := by decide +kernel
theorem dX3_has_11 : decode cX3_has 11 = .ok (.goto 4, 3) := by decide +kernel
theorem dX3_has_14 : decode cX3_has 14 = .ok (.iconst 0, 1) := by decide +kernel
theorem dX3_has_15 : decode cX3_has 15 = .ok (.ireturn, 1) := by decide +kernel
theorem dX3_join_0 : decode cX3_join 0 = .ok (.aload_n 0, 1) := by decide +kernel
theorem dX3_join_1 : decode cX3_join 1 = .ok (.getfield 9, 3) := by decide +kernel
theorem dX3_join_4 : decode cX3_join 4 = .ok (.iload_n 1, 1) := by decide +kernel
theorem dX3_join_5 : decode cX3_join 5 = .ok (.iload_n 2, 1) := by decide +kernel
theorem dX3_join_6 : decode cX3_join 6 = .ok (.iastore, 1) := by decide +kernel
theorem dX3_join_7 : decode cX3_join 7 = .ok (.aload_n 0, 1) := by decide +kernel
theorem dX3_join_8 : decode cX3_join 8 = .ok (.getfield 9, 3) := by decide +kernel
theorem dX3_join_11 : decode cX3_join 11 = .ok (.iload_n 2, 1) := by decide +kernel
theorem dX3_join_12 : decode cX3_join 12 = .ok (.iload_n 1, 1) := by decide +kernel
theorem dX3_join_13 : decode cX3_join 13 = .ok (.iastore, 1) := by decide +kernel
theorem dX3_join_14 : decode cX3_join 14 = .ok (.return_, 1) := by decide +kernel
theorem dX3_part_0 : decode cX3_part 0 = .ok (.aload_n 0, 1) := by decide +kernel
theorem dX3_part_1 : decode cX3_part 1 = .ok (.getfield 9, 3) := by decide +kernel
theorem dX3_part_4 : decode cX3_part 4 = .ok (.iload_n 1, 1) := by decide +kernel
theorem dX3_part_5 : decode cX3_part 5 = .ok (.iaload, 1) := by decide +kernel
theorem dX3_part_6 : decode cX3_part 6 = .ok (.istore_n 2, 1) := by decide +kernel
theorem dX3_part_7 : decode cX3_part 7 = .ok (.iload_n 2, 1) := by decide +kernel
theorem dX3_part_8 : decode cX3_part 8 = .ok (.iconst (-1), 1) := by decide +kernel
theorem dX3_part_9 : decode cX3_part 9 = .ok (.if_icmp .eq 17, 3) := by decide +kernel
theorem dX3_part_12 : decode cX3_part 12 = .ok (.aload_n 0, 1) := by decide +kernel
theorem dX3_part_13 : decode cX3_part 13 = .ok (.getfield 9, 3) := by decide +kernel
theorem dX3_part_16 : decode cX3_part 16 = .ok (.iload_n 2, 1) := by decide +kernel
theorem dX3_part_17 : decode cX3_part 17 = .ok (.iconst (-1), 1) := by decide +kernel
theorem dX3_part_18 : decode cX3_part 18 = .ok (.iastore, 1) := by decide +kernel
theorem dX3_part_19 : decode cX3_part 19 = .ok (.aload_n 0, 1) := by decide +kernel
theorem dX3_part_20 : decode cX3_part 20 = .ok (.getfield 9, 3) := by decide +kernel
theorem dX3_part_23 : decode cX3_part 23 = .ok (.iload_n 1, 1) := by decide +kernel
theorem dX3_part_24 : decode cX3_part 24 = .ok (.iconst (-1), 1) := by decide +kernel
theorem dX3_part_25 : decode cX3_part 25 = .ok (.iastore, 1) := by decide +kernel
theorem dX3_part_26 : decode cX3_part 26 = .ok (.return_, 1) := by decide +kernel
theorem dX3_size_0 : decode cX3_size 0 = .ok (.iconst 0, 1) := by decide +kernel
theorem dX3_size_1 : decode cX3_size 1 = .ok (.istore_n 1, 1) := by decide +kernel
theorem dX3_size_2 : decode cX3_size 2 = .ok (.iconst 0, 1) := by decide +kernel
theorem dX3_size_3 : decode cX3_size 3 = .ok (.istore_n 2, 1) := by decide +kernel
theorem dX3_size_4 : decode cX3_size 4 = .ok (.iload_n 2, 1) := by decide +kernel
theorem dX3_size_5 : decode cX3_size 5 = .ok (.bipush 12, 2) := by decide +kernel
theorem dX3_size_7 : decode cX3_size 7 = .ok (.if_icmp .ge 22, 3) := by decide +kernel
theorem dX3_size_10 : decode cX3_size 10 = .ok (.aload_n 0, 1) := by decide +kernel
theorem dX3_size_11 : decode cX3_size 11 = .ok (.getfield 9, 3) := by decide +kernel
theorem dX3_size_14 : decode cX3_size 14 = .ok (.iload_n 2, 1) := by decide +kernel
theorem dX3_size_15 : decode cX3_size 15 = .ok (.iaload, 1) := by decide +kernel
theorem dX3_size_16 : decode cX3_size 16 = .ok (.iload_n 2, 1) := by decide +kernel
theorem dX3_size_17 : decode cX3_size 17 = .ok (.if_icmp .le 6, 3) := by decide +kernel
theorem dX3_size_20 : decode cX3_size 20 = .ok (.iinc 1 1, 3) := by decide +kernel
theorem dX3_size_23 : decode cX3_size 23 = .ok (.iinc 2 1, 3) := by decide +kernel
theorem dX3_size_26 : decode cX3_size 26 = .ok (.goto (-22), 3) := by decide +kernel
theorem dX3_size_29 : decode cX3_size 29 = .ok (.iload_n 1, 1) := by decide +kernel
theorem dX3_size_30 : decode cX3_size 30 = .ok (.ireturn, 1) := by decide +kernel
theorem dX3_swapAlong_0 : decode cX3_swapAlong 0 = .ok (.iconst 0, 1) := by decide +kernel
theorem dX3_swapAlong_1 : decode cX3_swapAlong 1 = .ok (.istore_n 3, 1) := by decide +kernel
theorem dX3_swapAlong_2 : decode cX3_swapAlong 2 = .ok (.iload_n 3, 1) := by decide +kernel
theorem dX3_swapAlong_3 : decode cX3_swapAlong 3 = .ok (.iload_n 2, 1) := by decide +kernel
theorem dX3_swapAlong_4 : decode cX3_swapAlong 4 = .ok (.if_icmp .ge 21, 3) := by decide +kernel
theorem dX3_swapAlong_7 : decode cX3_swapAlong 7 = .ok (.aload_n 0, 1) := by decide +kernel
theorem dX3_swapAlong_8 : decode cX3_swapAlong 8 = .ok (.aload_n 1, 1) := by decide +kernel
theorem dX3_swapAlong_9 : decode cX3_swapAlong 9 = .ok (.iload_n 3, 1) := by decide +kernel
theorem dX3_swapAlong_10 : decode cX3_swapAlong 10 = .ok (.iaload, 1) := by decide +kernel
theorem dX3_swapAlong_11 : decode cX3_swapAlong 11 = .ok (.aload_n 1, 1) := by decide +kernel
theorem dX3_swapAlong_12 : decode cX3_swapAlong 12 = .ok (.iload_n 3, 1) := by decide +kernel
theorem dX3_swapAlong_13 : decode cX3_swapAlong 13 = .ok (.iconst 1, 1) := by decide +kernel
theorem dX3_swapAlong_14 : decode cX3_swapAlong 14 = .ok (.iadd, 1) := by decide +kernel
theorem dX3_swapAlong_15 : decode cX3_swapAlong 15 = .ok (.iaload, 1) := by decide +kernel
theorem dX3_swapAlong_16 : decode cX3_swapAlong 16 = .ok (.invokevirtual 27, 3) := by decide +kernel
theorem dX3_swapAlong_19 : decode cX3_swapAlong 19 = .ok (.iinc 3 2, 3) := by decide +kernel
theorem dX3_swapAlong_22 : decode cX3_swapAlong 22 = .ok (.goto (-20), 3) := by decide +kernel
theorem dX3_swapAlong_25 : decode cX3_swapAlong 25 = .ok (.return_, 1) := by decide +kernel
theorem dX4_init_0 : decode cX4_init 0 = .ok (.aload_n 0, 1) := by decide +kernel
theorem dX4_init_1 : decode cX4_init 1 = .ok (.invokespecial 3, 3) := by decide +kernel
theorem dX4_init_4 : decode cX4_init 4 = .ok (.aload_n 0, 1) := by decide +kernel
theorem dX4_init_5 : decode cX4_init 5 = .ok (.sipush 4096, 3) := by decide +kernel
theorem dX4_init_8 : decode cX4_init 8 = .ok (.newarray .int, 2) := by decide +kernel
theorem dX4_init_10 : decode cX4_init 10 = .ok (.putfield 9, 3) := by decide +kernel
theorem dX4_init_13 : decode cX4_init 13 = .ok (.aload_n 0, 1) := by decide +kernel
theorem dX4_init_14 : decode cX4_init 14 = .ok (.sipush 4096, 3) := by decide +kernel
theorem dX4_init_17 : decode cX4_init 17 = .ok (.newarray .int, 2) := by decide +kernel
theorem dX4_init_19 : decode cX4_init 19 = .ok (.putfield 15, 3) := by decide +kernel
theorem dX4_init_22 : decode cX4_init 22 = .ok (.aload_n 0, 1) := by decide +kernel
theorem dX4_init_23 : decode cX4_init 23 = .ok (.new 18, 3) := by decide +kernel
theorem dX4_init_26 : decode cX4_init 26 = .ok (.dup, 1) := by decide +kernel
theorem dX4_init_27 : decode cX4_init 27 = .ok (.invokespecial 20, 3) := by decide +kernel
theorem dX4_init_30 : decode cX4_init 30 = .ok (.putfield 21, 3) := by decide +kernel
theorem dX4_init_33 : decode cX4_init 33 = .ok (.aload_n 0, 1) := by decide +kernel
theorem dX4_init_34 : decode cX4_init 34 = .ok (.iconst 0, 1) := by decide +kernel
theorem dX4_init_35 : decode cX4_init 35 = .ok (.putfield 25, 3) := by decide +kernel
theorem dX4_init_38 : decode cX4_init 38 = .ok (.aload_n 0, 1) := by decide +kernel
theorem dX4_init_39 : decode cX4_init 39 = .ok (.iconst (-1), 1) := by decide +kernel
theorem dX4_init_40 : decode cX4_init 40 = .ok (.putfield 29, 3) := by decide +kernel
theorem dX4_init_43 : decode cX4_init 43 = .ok (.aload_n 0, 1) := by decide +kernel
theorem dX4_init_44 : decode cX4_init 44 = .ok (.aload_n 1, 1) := by decide +kernel
theorem dX4_init_45 : decode cX4_init 45 = .ok (.putfield 33, 3) := by decide +kernel
theorem dX4_init_48 : decode cX4_init 48 = .ok (.return_, 1) := by decide +kernel
theorem dX4_learn_0 : decode cX4_learn 0 = .ok (.aload_n 0, 1) := by decide +kernel
theorem dX4_learn_1 : decode cX4_learn 1 = .ok (.getfield 29, 3) := by decide +kernel
theorem dX4_learn_4 : decode cX4_learn 4 = .ok (.aload_n 0, 1) := by decide +kernel
theorem dX4_learn_5 : decode cX4_learn 5 = .ok (.getfield 33, 3) := by decide +kernel
theorem dX4_learn_8 : decode cX4_learn 8 = .ok (.getfield 37, 3) := by decide +kernel
theorem dX4_learn_11 : decode cX4_learn 11 = .ok (.if_icmp .ne 4, 3) := by decide +kernel
theorem dX4_learn_14 : decode cX4_learn 14 = .ok (.return_, 1) := by decide +kernel
theorem dX4_learn_15 : decode cX4_learn 15 = .ok (.aload_n 0, 1) := by decide +kernel
theorem dX4_learn_16 : decode cX4_learn 16 = .ok (.aload_n 0, 1) := by decide +kernel
theorem dX4_learn_17 : decode cX4_learn 17 = .ok (.getfield 33, 3) := by decide +kernel
theorem dX4_learn_20 : decode cX4_learn 20 = .ok (.getfield 37, 3) := by decide +kernel
theorem dX4_learn_23 : decode cX4_learn 23 = .ok (.putfield 29, 3) := by decide +kernel
theorem dX4_learn_26 : decode cX4_learn 26 = .ok (.aload_n 0, 1) := by decide +kernel
theorem dX4_learn_27 : decode cX4_learn 27 = .ok (.iconst 0, 1) := by decide +kernel
theorem dX4_learn_28 : decode cX4_learn 28 = .ok (.putfield 25, 3) := by decide +kernel
theorem dX4_learn_31 : decode cX4_learn 31 = .ok (.aload_n 0, 1) := by decide +kernel
theorem dX4_learn_32 : decode cX4_learn 32 = .ok (.getfield 15, 3) := by decide +kernel
theorem dX4_learn_35 : decode cX4_learn 35 = .ok (.iconst 0, 1) := by decide +kernel
theorem dX4_learn_36 : decode cX4_learn 36 = .ok (.invokestatic 42, 3) := by decide +kernel
theorem dX4_learn_39 : decode cX4_learn 39 = .ok (.aload_n 0, 1) := by decide +kernel
theorem dX4_learn_40 : decode cX4_learn 40 = .ok (.getfield 33, 3) := by decide +kernel
theorem dX4_learn_43 : decode cX4_learn 43 = .ok (.invokevirtual 48, 3) := by decide +kernel
theorem dX4_learn_46 : decode cX4_learn 46 = .ok (.istore_n 1, 1) := by decide +kernel
theorem dX4_learn_47 : decode cX4_learn 47 = .ok (.aload_n 0, 1) := by decide +kernel
theorem dX4_learn_48 : decode cX4_learn 48 = .ok (.iload_n 1, 1) := by decide +kernel
theorem dX4_learn_49 : decode cX4_learn 49 = .ok (.iconst 0, 1) := by decide +kernel
theorem dX4_learn_50 : decode cX4_learn 50 = .ok (.invokevirtual 52, 3) := by decide +kernel
theorem dX4_learn_53 : decode cX4_learn 53 = .ok (.iconst 0, 1) := by decide +kernel
theorem dX4_learn_54 : decode cX4_learn 54 = .ok (.istore_n 2, 1) := by decide +kernel
theorem dX4_learn_55 : decode cX4_learn 55 = .ok (.iload_n 2, 1) := by decide +kernel
theorem dX4_learn_56 : decode cX4_learn 56 = .ok (.aload_n 0, 1) := by decide +kernel
theorem dX4_learn_57 : decode cX4_learn 57 = .ok (.getfield 33, 3) := by decide +kernel
theorem dX4_learn_60 : decode cX4_learn 60 = .ok (.getfield 56, 3) := by decide +kernel
theorem dX4_learn_63 : decode cX4_learn 63 = .ok (.if_icmp .ge 21, 3) := by decide +kernel
theorem dX4_learn_66 : decode cX4_learn 66 = .ok (.aload_n 0, 1) := by decide +kernel
theorem dX4_learn_67 : decode cX4_learn 67 = .ok (.iload_n 1, 1) := by decide +kernel
theorem dX4_learn_68 : decode cX4_learn 68 = .ok (.iconst 1, 1) := by decide +kernel
theorem dX4_learn_69 : decode cX4_learn 69 = .ok (.iload_n 2, 1) := by decide +kernel
theorem dX4_learn_70 : decode cX4_learn 70 = .ok (.ishl, 1) := by decide +kernel
theorem dX4_learn_71 : decode cX4_learn 71 = .ok (.iconst (-1), 1) := by decide +kernel
theorem dX4_learn_72 : decode cX4_learn 72 = .ok (.ixor, 1) := by decide +kernel
theorem dX4_learn_73 : decode cX4_learn 73 = .ok (.iand, 1) := by decide +kernel
theorem dX4_learn_74 : decode cX4_learn 74 = .ok (.iconst 0, 1) := by decide +kernel
theorem dX4_learn_75 : decode cX4_learn 75 = .ok (.invokevirtual 52, 3) := by decide +kernel
theorem dX4_learn_78 : decode cX4_learn 78 = .ok (.iinc 2 1, 3) := by decide +kernel
theorem dX4_learn_81 : decode cX4_learn 81 = .ok (.goto (-26), 3) := by decide +kernel
theorem dX4_learn_84 : decode cX4_learn 84 = .ok (.return_, 1) := by decide +kernel
theorem dX4_findOut_0 : decode cX4_findOut 0 = .ok (.aload_n 0, 1) := by decide +kernel
theorem dX4_findOut_1 : decode cX4_findOut 1 = .ok (.getfield 15, 3) := by decide +kernel
theorem dX4_findOut_4 : decode cX4_findOut 4 = .ok (.iload_n 1, 1) := by decide +kernel
theorem dX4_findOut_5 : decode cX4_findOut 5 = .ok (.iaload, 1) := by decide +kernel
theorem dX4_findOut_6 : decode cX4_findOut 6 = .ok (.ifCond .eq 4, 3) := by decide +kernel
theorem dX4_findOut_9 : decode cX4_findOut 9 = .ok (.return_, 1) := by decide +kernel
theorem dX4_findOut_10 : decode cX4_findOut 10 = .ok (.iload_n 2, 1) := by decide +kernel
theorem dX4_findOut_11 : decode cX4_findOut 11 = .ok (.istore_n 3, 1) := by decide +kernel
theorem dX4_findOut_12 : decode cX4_findOut 12 = .ok (.iload_n 3, 1) := by decide +kernel
theorem dX4_findOut_13 : decode cX4_findOut 13 = .ok (.aload_n 0, 1) := by decide +kernel
theorem dX4_findOut_14 : decode cX4_findOut 14 = .ok (.getfield 33, 3) := by decide +kernel
theorem dX4_findOut_17 : decode cX4_findOut 17 = .ok (.getfield 56, 3) := by decide +kernel
theorem dX4_findOut_20 : decode cX4_findOut 20 = .ok (.if_icmp .ge 17, 3) := by decide +kernel
theorem dX4_findOut_23 : decode cX4_findOut 23 = .ok (.iload_n 1, 1) := by decide +kernel
theorem dX4_findOut_24 : decode cX4_findOut 24 = .ok (.iload_n 3, 1) := by decide +kernel
theorem dX4_findOut_25 : decode cX4_findOut 25 = .ok (.ishr, 1) := by decide +kernel
theorem dX4_findOut_26 : decode cX4_findOut 26 = .ok (.iconst 1, 1) := by decide +kernel
theorem dX4_findOut_27 : decode cX4_findOut 27 = .ok (.iand, 1) := by decide +kernel
theorem dX4_findOut_28 : decode cX4_findOut 28 = .ok (.ifCond .ne 9, 3) := by decide +kernel
theorem dX4_findOut_31 : decode cX4_findOut 31 = .ok (.iinc 3 1, 3) := by decide +kernel
theorem dX4_findOut_34 : decode cX4_findOut 34 = .ok (.goto (-22), 3) := by decide +kernel
theorem dX4_findOut_37 : decode cX4_findOut 37 = .ok (.iload_n 3, 1) := by decide +kernel
theorem dX4_findOut_38 : decode cX4_findOut 38 = .ok (.aload_n 0, 1) := by decide +kernel
theorem dX4_findOut_39 : decode cX4_findOut 39 = .ok (.getfield 33, 3) := by decide +kernel
theorem dX4_findOut_42 : decode cX4_findOut 42 = .ok (.getfield 56, 3) := by decide +kernel
theorem dX4_findOut_45 : decode cX4_findOut 45 = .ok (.if_icmp .lt 18, 3) := by decide +kernel
theorem dX4_findOut_48 : decode cX4_findOut 48 = .ok (.aload_n 0, 1) := by decide +kernel
theorem dX4_findOut_49 : decode cX4_findOut 49 = .ok (.getfield 9, 3) := by decide +kernel
theorem dX4_findOut_52 : decode cX4_findOut 52 = .ok (.iload_n 1, 1) := by decide +kernel
theorem dX4_findOut_53 : decode cX4_findOut 53 = .ok (.iconst 0, 1) := by decide +kernel
theorem dX4_findOut_54 : decode cX4_findOut 54 = .ok (.iastore, 1) := by decide +kernel
theorem dX4_findOut_55 : decode cX4_findOut 55 = .ok (.aload_n 0, 1) := by decide +kernel
theorem dX4_findOut_56 : decode cX4_findOut 56 = .ok (.getfield 15, 3) := by decide +kernel
theorem dX4_findOut_59 : decode cX4_findOut 59 = .ok (.iload_n 1, 1) := by decide +kernel
theorem dX4_findOut_60 : decode cX4_findOut 60 = .ok (.iconst 1, 1) := by decide +kernel
theorem dX4_findOut_61 : decode cX4_findOut 61 = .ok (.iastore, 1) := by decide +kernel
theorem dX4_findOut_62 : decode cX4_findOut 62 = .ok (.return_, 1) := by decide +kernel
theorem dX4_findOut_63 : decode cX4_findOut 63 = .ok (.iload_n 1, 1) := by decide +kernel
theorem dX4_findOut_64 : decode cX4_findOut 64 = .ok (.iconst 1, 1) := by decide +kernel
theorem dX4_findOut_65 : decode cX4_findOut 65 = .ok (.iload_n 3, 1) := by decide +kernel
theorem dX4_findOut_66 : decode cX4_findOut 66 = .ok (.ishl, 1) := by decide +kernel
theorem dX4_findOut_67 : decode cX4_findOut 67 = .ok (.iconst (-1), 1) := by decide +kernel
theorem dX4_findOut_68 : decode cX4_findOut 68 = .ok (.ixor, 1) := by decide +kernel
theorem dX4_findOut_69 : decode cX4_findOut 69 = .ok (.iand, 1) := by decide +kernel
theorem dX4_findOut_70 : decode cX4_findOut 70 = .ok (.istore 4, 2) := by decide +kernel
theorem dX4_findOut_72 : decode cX4_findOut 72 = .ok (.aload_n 0, 1) := by decide +kernel
theorem dX4_findOut_73 : decode cX4_findOut 73 = .ok (.iload 4, 2) := by decide +kernel
theorem dX4_findOut_75 : decode cX4_findOut 75 = .ok (.iload_n 3, 1) := by decide +kernel
theorem dX4_findOut_76 : decode cX4_findOut 76 = .ok (.iconst 1, 1) := by decide +kernel
theorem dX4_findOut_77 : decode cX4_findOut 77 = .ok (.iadd, 1) := by decide +kernel
theorem dX4_findOut_78 : decode cX4_findOut 78 = .ok (.invokevirtual 52, 3) := by decide +kernel
theorem dX4_findOut_81 : decode cX4_findOut 81 = .ok (.aload_n 0, 1) := by decide +kernel
theorem dX4_findOut_82 : decode cX4_findOut 82 = .ok (.getfield 9, 3) := by decide +kernel
theorem dX4_findOut_85 : decode cX4_findOut 85 = .ok (.iload 4, 2) := by decide +kernel
theorem dX4_findOut_87 : decode cX4_findOut 87 = .ok (.iaload, 1) := by decide +kernel
theorem dX4_findOut_88 : decode cX4_findOut 88 = .ok (.istore 5, 2) := by decide +kernel
theorem dX4_findOut_90 : decode cX4_findOut 90 = .ok (.aload_n 0, 1) := by decide +kernel
theorem dX4_findOut_91 : decode cX4_findOut 91 = .ok (.getfield 15, 3) := by decide +kernel
theorem dX4_findOut_94 : decode cX4_findOut 94 = .ok (.iload 4, 2) := by decide +kernel
theorem dX4_findOut_96 : decode cX4_findOut 96 = .ok (.iaload, 1) := by decide +kernel
theorem dX4_findOut_97 : decode cX4_findOut 97 = .ok (.istore 6, 2) := by decide +kernel
theorem dX4_findOut_99 : decode cX4_findOut 99 = .ok (.iload 4, 2) := by decide +kernel
theorem dX4_findOut_101 : decode cX4_findOut 101 = .ok (.aload_n 0, 1) := by decide +kernel
theorem dX4_findOut_102 : decode cX4_findOut 102 = .ok (.getfield 33, 3) := by decide +kernel
theorem dX4_findOut_105 : decode cX4_findOut 105 = .ok (.getfield 59, 3) := by decide +kernel
theorem dX4_findOut_108 : decode cX4_findOut 108 = .ok (.iload_n 3, 1) := by decide +kernel
theorem dX4_findOut_109 : decode cX4_findOut 109 = .ok (.iaload, 1) := by decide +kernel
theorem dX4_findOut_110 : decode cX4_findOut 110 = .ok (.iand, 1) := by decide +kernel
theorem dX4_findOut_111 : decode cX4_findOut 111 = .ok (.istore 7, 2) := by decide +kernel
theorem dX4_findOut_113 : decode cX4_findOut 113 = .ok (.iload_n 3, 1) := by decide +kernel
theorem dX4_findOut_114 : decode cX4_findOut 114 = .ok (.iconst 1, 1) := by decide +kernel
theorem dX4_findOut_115 : decode cX4_findOut 115 = .ok (.iadd, 1) := by decide +kernel
theorem dX4_findOut_116 : decode cX4_findOut 116 = .ok (.istore 8, 2) := by decide +kernel
theorem dX4_findOut_118 : decode cX4_findOut 118 = .ok (.iload 8, 2) := by decide +kernel
theorem dX4_findOut_120 : decode cX4_findOut 120 = .ok (.aload_n 0, 1) := by decide +kernel
theorem dX4_findOut_121 : decode cX4_findOut 121 = .ok (.getfield 33, 3) := by decide +kernel
theorem dX4_findOut_124 : decode cX4_findOut 124 = .ok (.getfield 56, 3) := by decide +kernel
theorem dX4_findOut_127 : decode cX4_findOut 127 = .ok (.if_icmp .ge 100, 3) := by decide +kernel
theorem dX4_findOut_130 : decode cX4_findOut 130 = .ok (.iload 7, 2) := by decide +kernel
theorem dX4_findOut_132 : decode cX4_findOut 132 = .ok (.iload 8, 2) := by decide +kernel
theorem dX4_findOut_134 : decode cX4_findOut 134 = .ok (.ishr, 1) := by decide +kernel
theorem dX4_findOut_135 : decode cX4_findOut 135 = .ok (.iconst 1, 1) := by decide +kernel
theorem dX4_findOut_136 : decode cX4_findOut 136 = .ok (.iand, 1) := by decide +kernel
theorem dX4_findOut_137 : decode cX4_findOut 137 = .ok (.ifCond .ne 6, 3) := by decide +kernel
theorem dX4_findOut_140 : decode cX4_findOut 140 = .ok (.goto 81, 3) := by decide +kernel
theorem dX4_findOut_143 : decode cX4_findOut 143 = .ok (.iload 4, 2) := by decide +kernel
theorem dX4_findOut_145 : decode cX4_findOut 145 = .ok (.iconst 1, 1) := by decide +kernel
theorem dX4_findOut_146 : decode cX4_findOut 146 = .ok (.iload 8, 2) := by decide +kernel
theorem dX4_findOut_148 : decode cX4_findOut 148 = .ok (.ishl, 1) := by decide +kernel
theorem dX4_findOut_149 : decode cX4_findOut 149 = .ok (.iconst (-1), 1) := by decide +kernel
theorem dX4_findOut_150 : decode cX4_findOut 150 = .ok (.ixor, 1) := by decide +kernel
theorem dX4_findOut_151 : decode cX4_findOut 151 = .ok (.iand, 1) := by decide +kernel
theorem dX4_findOut_152 : decode cX4_findOut 152 = .ok (.istore 9, 2) := by decide +kernel
theorem dX4_findOut_154 : decode cX4_findOut 154 = .ok (.aload_n 0, 1) := by decide +kernel
theorem dX4_findOut_155 : decode cX4_findOut 155 = .ok (.iload 9, 2) := by decide +kernel
theorem dX4_findOut_157 : decode cX4_findOut 157 = .ok (.iload_n 3, 1) := by decide +kernel
theorem dX4_findOut_158 : decode cX4_findOut 158 = .ok (.iconst 1, 1) := by decide +kernel
theorem dX4_findOut_159 : decode cX4_findOut 159 = .ok (.iadd, 1) := by decide +kernel
theorem dX4_findOut_160 : decode cX4_findOut 160 = .ok (.invokevirtual 52, 3) := by decide +kernel
theorem dX4_findOut_163 : decode cX4_findOut 163 = .ok (.aload_n 0, 1) := by decide +kernel
theorem dX4_findOut_164 : decode cX4_findOut 164 = .ok (.getfield 9, 3) := by decide +kernel
theorem dX4_findOut_167 : decode cX4_findOut 167 = .ok (.iload 9, 2) := by decide +kernel
theorem dX4_findOut_169 : decode cX4_findOut 169 = .ok (.iaload, 1) := by decide +kernel
theorem dX4_findOut_170 : decode cX4_findOut 170 = .ok (.iconst 1, 1) := by decide +kernel
theorem dX4_findOut_171 : decode cX4_findOut 171 = .ok (.iadd, 1) := by decide +kernel
theorem dX4_findOut_172 : decode cX4_findOut 172 = .ok (.iload 5, 2) := by decide +kernel
theorem dX4_findOut_174 : decode cX4_findOut 174 = .ok (.if_icmp .le 17, 3) := by decide +kernel
theorem dX4_findOut_177 : decode cX4_findOut 177 = .ok (.aload_n 0, 1) := by decide +kernel
theorem dX4_findOut_178 : decode cX4_findOut 178 = .ok (.getfield 9, 3) := by decide +kernel
theorem dX4_findOut_181 : decode cX4_findOut 181 = .ok (.iload 9, 2) := by decide +kernel
theorem dX4_findOut_183 : decode cX4_findOut 183 = .ok (.iaload, 1) := by decide +kernel
theorem dX4_findOut_184 : decode cX4_findOut 184 = .ok (.iconst 1, 1) := by decide +kernel
theorem dX4_findOut_185 : decode cX4_findOut 185 = .ok (.iadd, 1) := by decide +kernel
theorem dX4_findOut_186 : decode cX4_findOut 186 = .ok (.istore 5, 2) := by decide +kernel
theorem dX4_findOut_188 : decode cX4_findOut 188 = .ok (.iconst 0, 1) := by decide +kernel
theorem dX4_findOut_189 : decode cX4_findOut 189 = .ok (.istore 6, 2) := by decide +kernel
theorem dX4_findOut_191 : decode cX4_findOut 191 = .ok (.iload 6, 2) := by decide +kernel
theorem dX4_findOut_193 : decode cX4_findOut 193 = .ok (.aload_n 0, 1) := by decide +kernel
theorem dX4_findOut_194 : decode cX4_findOut 194 = .ok (.getfield 9, 3) := by decide +kernel
theorem dX4_findOut_197 : decode cX4_findOut 197 = .ok (.iload 9, 2) := by decide +kernel
theorem dX4_findOut_199 : decode cX4_findOut 199 = .ok (.iaload, 1) := by decide +kernel
theorem dX4_findOut_200 : decode cX4_findOut 200 = .ok (.iconst 1, 1) := by decide +kernel
theorem dX4_findOut_201 : decode cX4_findOut 201 = .ok (.iadd, 1) := by decide +kernel
theorem dX4_findOut_202 : decode cX4_findOut 202 = .ok (.iload 5, 2) := by decide +kernel
theorem dX4_findOut_204 : decode cX4_findOut 204 = .ok (.if_icmp .ne 13, 3) := by decide +kernel
theorem dX4_findOut_207 : decode cX4_findOut 207 = .ok (.aload_n 0, 1) := by decide +kernel
theorem dX4_findOut_208 : decode cX4_findOut 208 = .ok (.getfield 15, 3) := by decide +kernel
theorem dX4_findOut_211 : decode cX4_findOut 211 = .ok (.iload 9, 2) := by decide +kernel
theorem dX4_findOut_213 : decode cX4_findOut 213 = .ok (.iaload, 1) := by decide +kernel
theorem dX4_findOut_214 : decode cX4_findOut 214 = .ok (.goto 4, 3) := by decide +kernel
theorem dX4_findOut_217 : decode cX4_findOut 217 = .ok (.iconst 0, 1) := by decide +kernel
theorem dX4_findOut_218 : decode cX4_findOut 218 = .ok (.iadd, 1) := by decide +kernel
theorem dX4_findOut_219 : decode cX4_findOut 219 = .ok (.istore 6, 2) := by decide +kernel
theorem dX4_findOut_221 : decode cX4_findOut 221 = .ok (.iinc 8 1, 3) := by decide +kernel
theorem dX4_findOut_224 : decode cX4_findOut 224 = .ok (.goto (-106), 3) := by decide +kernel
theorem dX4_findOut_227 : decode cX4_findOut 227 = .ok (.aload_n 0, 1) := by decide +kernel
theorem dX4_findOut_228 : decode cX4_findOut 228 = .ok (.getfield 9, 3) := by decide +kernel
theorem dX4_findOut_231 : decode cX4_findOut 231 = .ok (.iload_n 1, 1) := by decide +kernel
theorem dX4_findOut_232 : decode cX4_findOut 232 = .ok (.iload 5, 2) := by decide +kernel
theorem dX4_findOut_234 : decode cX4_findOut 234 = .ok (.iastore, 1) := by decide +kernel
theorem dX4_findOut_235 : decode cX4_findOut 235 = .ok (.aload_n 0, 1) := by decide +kernel
theorem dX4_findOut_236 : decode cX4_findOut 236 = .ok (.getfield 15, 3) := by decide +kernel
theorem dX4_findOut_239 : decode cX4_findOut 239 = .ok (.iload_n 1, 1) := by decide +kernel
theorem dX4_findOut_240 : decode cX4_findOut 240 = .ok (.iload 6, 2) := by decide +kernel
theorem dX4_findOut_242 : decode cX4_findOut 242 = .ok (.iastore, 1) := by decide +kernel
theorem dX4_findOut_243 : decode cX4_findOut 243 = .ok (.return_, 1) := by decide +kernel
theorem dX4_number_0 : decode cX4_number 0 = .ok (.aload_n 0, 1) := by decide +kernel
theorem dX4_number_1 : decode cX4_number 1 = .ok (.invokevirtual 62, 3) := by decide +kernel
theorem dX4_number_4 : decode cX4_number 4 = .ok (.aload_n 0, 1) := by decide +kernel
theorem dX4_number_5 : decode cX4_number 5 = .ok (.getfield 9, 3) := by decide +kernel
theorem dX4_number_8 : decode cX4_number 8 = .ok (.aload_n 0, 1) := by decide +kernel
theorem dX4_number_9 : decode cX4_number 9 = .ok (.getfield 33, 3) := by decide +kernel
theorem dX4_number_12 : decode cX4_number 12 = .ok (.invokevirtual 48, 3) := by decide +kernel
theorem dX4_number_15 : decode cX4_number 15 = .ok (.iaload, 1) := by decide +kernel
theorem dX4_number_16 : decode cX4_number 16 = .ok (.ireturn, 1) := by decide +kernel
theorem dX4_howMany_0 : decode cX4_howMany 0 = .ok (.aload_n 0, 1) := by decide +kernel
theorem dX4_howMany_1 : decode cX4_howMany 1 = .ok (.invokevirtual 62, 3) := by decide +kernel
theorem dX4_howMany_4 : decode cX4_howMany 4 = .ok (.aload_n 0, 1) := by decide +kernel
theorem dX4_howMany_5 : decode cX4_howMany 5 = .ok (.getfield 15, 3) := by decide +kernel
theorem dX4_howMany_8 : decode cX4_howMany 8 = .ok (.aload_n 0, 1) := by decide +kernel
theorem dX4_howMany_9 : decode cX4_howMany 9 = .ok (.getfield 33, 3) := by decide +kernel
theorem dX4_howMany_12 : decode cX4_howMany 12 = .ok (.invokevirtual 48, 3) := by decide +kernel
theorem dX4_howMany_15 : decode cX4_howMany 15 = .ok (.iaload, 1) := by decide +kernel
theorem dX4_howMany_16 : decode cX4_howMany 16 = .ok (.ireturn, 1) := by decide +kernel
theorem dX4_exposing_0 : decode cX4_exposing 0 = .ok (.aload_n 0, 1) := by decide +kernel
theorem dX4_exposing_1 : decode cX4_exposing 1 = .ok (.invokevirtual 62, 3) := by decide +kernel
theorem dX4_exposing_4 : decode cX4_exposing 4 = .ok (.aload_n 0, 1) := by decide +kernel
theorem dX4_exposing_5 : decode cX4_exposing 5 = .ok (.getfield 33, 3) := by decide +kernel
theorem dX4_exposing_8 : decode cX4_exposing 8 = .ok (.invokevirtual 48, 3) := by decide +kernel
theorem dX4_exposing_11 : decode cX4_exposing 11 = .ok (.istore_n 2, 1) := by decide +kernel
theorem dX4_exposing_12 : decode cX4_exposing 12 = .ok (.iload_n 2, 1) := by decide +kernel
theorem dX4_exposing_13 : decode cX4_exposing 13 = .ok (.iconst 1, 1) := by decide +kernel
theorem dX4_exposing_14 : decode cX4_exposing 14 = .ok (.iload_n 1, 1) := by decide +kernel
theorem dX4_exposing_15 : decode cX4_exposing 15 = .ok (.ishl, 1) := by decide +kernel
theorem dX4_exposing_16 : decode cX4_exposing 16 = .ok (.iconst (-1), 1) := by decide +kernel
theorem dX4_exposing_17 : decode cX4_exposing 17 = .ok (.ixor, 1) := by decide +kernel
theorem dX4_exposing_18 : decode cX4_exposing 18 = .ok (.iand, 1) := by decide +kernel
theorem dX4_exposing_19 : decode cX4_exposing 19 = .ok (.istore_n 3, 1) := by decide +kernel
theorem dX4_exposing_20 : decode cX4_exposing 20 = .ok (.aload_n 0, 1) := by decide +kernel
theorem dX4_exposing_21 : decode cX4_exposing 21 = .ok (.getfield 9, 3) := by decide +kernel
theorem dX4_exposing_24 : decode cX4_exposing 24 = .ok (.iload_n 3, 1) := by decide +kernel
theorem dX4_exposing_25 : decode cX4_exposing 25 = .ok (.iaload, 1) := by decide +kernel
theorem dX4_exposing_26 : decode cX4_exposing 26 = .ok (.aload_n 0, 1) := by decide +kernel
theorem dX4_exposing_27 : decode cX4_exposing 27 = .ok (.getfield 9, 3) := by decide +kernel
theorem dX4_exposing_30 : decode cX4_exposing 30 = .ok (.iload_n 2, 1) := by decide +kernel
theorem dX4_exposing_31 : decode cX4_exposing 31 = .ok (.iaload, 1) := by decide +kernel
theorem dX4_exposing_32 : decode cX4_exposing 32 = .ok (.if_icmp .ne 12, 3) := by decide +kernel
theorem dX4_exposing_35 : decode cX4_exposing 35 = .ok (.aload_n 0, 1) := by decide +kernel
theorem dX4_exposing_36 : decode cX4_exposing 36 = .ok (.getfield 15, 3) := by decide +kernel
theorem dX4_exposing_39 : decode cX4_exposing 39 = .ok (.iload_n 3, 1) := by decide +kernel
theorem dX4_exposing_40 : decode cX4_exposing 40 = .ok (.iaload, 1) := by decide +kernel
theorem dX4_exposing_41 : decode cX4_exposing 41 = .ok (.goto 4, 3) := by decide +kernel
theorem dX4_exposing_44 : decode cX4_exposing 44 = .ok (.iconst 0, 1) := by decide +kernel
theorem dX4_exposing_45 : decode cX4_exposing 45 = .ok (.ireturn, 1) := by decide +kernel
theorem dX4_exposable_0 : decode cX4_exposable 0 = .ok (.aload_n 0, 1) := by decide +kernel
theorem dX4_exposable_1 : decode cX4_exposable 1 = .ok (.invokevirtual 62, 3) := by decide +kernel
theorem dX4_exposable_4 : decode cX4_exposable 4 = .ok (.aload_n 0, 1) := by decide +kernel
theorem dX4_exposable_5 : decode cX4_exposable 5 = .ok (.getfield 33, 3) := by decide +kernel
theorem dX4_exposable_8 : decode cX4_exposable 8 = .ok (.invokevirtual 48, 3) := by decide +kernel
theorem dX4_exposable_11 : decode cX4_exposable 11 = .ok (.istore_n 1, 1) := by decide +kernel
theorem dX4_exposable_12 : decode cX4_exposable 12 = .ok (.iconst 0, 1) := by decide +kernel
theorem dX4_exposable_13 : decode cX4_exposable 13 = .ok (.istore_n 2, 1) := by decide +kernel
theorem dX4_exposable_14 : decode cX4_exposable 14 = .ok (.iconst 0, 1) := by decide +kernel
theorem dX4_exposable_15 : decode cX4_exposable 15 = .ok (.istore_n 3, 1) := by decide +kernel
theorem dX4_exposable_16 : decode cX4_exposable 16 = .ok (.iload_n 3, 1) := by decide +kernel
theorem dX4_exposable_17 : decode cX4_exposable 17 = .ok (.aload_n 0, 1) := by decide +kernel
theorem dX4_exposable_18 : decode cX4_exposable 18 = .ok (.getfield 33, 3) := by decide +kernel
theorem dX4_exposable_21 : decode cX4_exposable 21 = .ok (.getfield 56, 3) := by decide +kernel
theorem dX4_exposable_24 : decode cX4_exposable 24 = .ok (.if_icmp .ge 36, 3) := by decide +kernel
theorem dX4_exposable_27 : decode cX4_exposable 27 = .ok (.aload_n 0, 1) := by decide +kernel
theorem dX4_exposable_28 : decode cX4_exposable 28 = .ok (.getfield 9, 3) := by decide +kernel
theorem dX4_exposable_31 : decode cX4_exposable 31 = .ok (.iload_n 1, 1) := by decide +kernel
theorem dX4_exposable_32 : decode cX4_exposable 32 = .ok (.iconst 1, 1) := by decide +kernel
theorem dX4_exposable_33 : decode cX4_exposable 33 = .ok (.iload_n 3, 1) := by decide +kernel
theorem dX4_exposable_34 : decode cX4_exposable 34 = .ok (.ishl, 1) := by decide +kernel
theorem dX4_exposable_35 : decode cX4_exposable 35 = .ok (.iconst (-1), 1) := by decide +kernel
theorem dX4_exposable_36 : decode cX4_exposable 36 = .ok (.ixor, 1) := by decide +kernel
theorem dX4_exposable_37 : decode cX4_exposable 37 = .ok (.iand, 1) := by decide +kernel
theorem dX4_exposable_38 : decode cX4_exposable 38 = .ok (.iaload, 1) := by decide +kernel
theorem dX4_exposable_39 : decode cX4_exposable 39 = .ok (.aload_n 0, 1) := by decide +kernel
theorem dX4_exposable_40 : decode cX4_exposable 40 = .ok (.getfield 9, 3) := by decide +kernel
theorem dX4_exposable_43 : decode cX4_exposable 43 = .ok (.iload_n 1, 1) := by decide +kernel
theorem dX4_exposable_44 : decode cX4_exposable 44 = .ok (.iaload, 1) := by decide +kernel
theorem dX4_exposable_45 : decode cX4_exposable 45 = .ok (.if_icmp .ne 9, 3) := by decide +kernel
theorem dX4_exposable_48 : decode cX4_exposable 48 = .ok (.iload_n 2, 1) := by decide +kernel
theorem dX4_exposable_49 : decode cX4_exposable 49 = .ok (.iconst 1, 1) := by decide +kernel
theorem dX4_exposable_50 : decode cX4_exposable 50 = .ok (.iload_n 3, 1) := by decide +kernel
theorem dX4_exposable_51 : decode cX4_exposable 51 = .ok (.ishl, 1) := by decide +kernel
theorem dX4_exposable_52 : decode cX4_exposable 52 = .ok (.ior, 1) := by decide +kernel
theorem dX4_exposable_53 : decode cX4_exposable 53 = .ok (.istore_n 2, 1) := by decide +kernel
theorem dX4_exposable_54 : decode cX4_exposable 54 = .ok (.iinc 3 1, 3) := by decide +kernel
theorem dX4_exposable_57 : decode cX4_exposable 57 = .ok (.goto (-41), 3) := by decide +kernel
theorem dX4_exposable_60 : decode cX4_exposable 60 = .ok (.iload_n 2, 1) := by decide +kernel
theorem dX4_exposable_61 : decode cX4_exposable 61 = .ok (.ireturn, 1) := by decide +kernel
theorem dX4_isCritical_0 : decode cX4_isCritical 0 = .ok (.aload_n 0, 1) := by decide +kernel
theorem dX4_isCritical_1 : decode cX4_isCritical 1 = .ok (.invokevirtual 62, 3) := by decide +kernel
theorem dX4_isCritical_4 : decode cX4_isCritical 4 = .ok (.aload_n 0, 1) := by decide +kernel
theorem dX4_isCritical_5 : decode cX4_isCritical 5 = .ok (.getfield 33, 3) := by decide +kernel
theorem dX4_isCritical_8 : decode cX4_isCritical 8 = .ok (.invokevirtual 48, 3) := by decide +kernel
theorem dX4_isCritical_11 : decode cX4_isCritical 11 = .ok (.istore_n 1, 1) := by decide +kernel
theorem dX4_isCritical_12 : decode cX4_isCritical 12 = .ok (.iconst 0, 1) := by decide +kernel
theorem dX4_isCritical_13 : decode cX4_isCritical 13 = .ok (.istore_n 2, 1) := by decide +kernel
theorem dX4_isCritical_14 : decode cX4_isCritical 14 = .ok (.iload_n 2, 1) := by decide +kernel
theorem dX4_isCritical_15 : decode cX4_isCritical 15 = .ok (.aload_n 0, 1) := by decide +kernel
theorem dX4_isCritical_16 : decode cX4_isCritical 16 = .ok (.getfield 33, 3) := by decide +kernel
theorem dX4_isCritical_19 : decode cX4_isCritical 19 = .ok (.getfield 56, 3) := by decide +kernel
theorem dX4_isCritical_22 : decode cX4_isCritical 22 = .ok (.if_icmp .ge 37, 3) := by decide +kernel
theorem dX4_isCritical_25 : decode cX4_isCritical 25 = .ok (.iconst 2, 1) := by decide +kernel
theorem dX4_isCritical_26 : decode cX4_isCritical 26 = .ok (.aload_n 0, 1) := by decide +kernel
theorem dX4_isCritical_27 : decode cX4_isCritical 27 = .ok (.getfield 9, 3) := by decide +kernel
theorem dX4_isCritical_30 : decode cX4_isCritical 30 = .ok (.iload_n 1, 1) := by decide +kernel
theorem dX4_isCritical_31 : decode cX4_isCritical 31 = .ok (.iconst 1, 1) := by decide +kernel
theorem dX4_isCritical_32 : decode cX4_isCritical 32 = .ok (.iload_n 2, 1) := by decide +kernel
theorem dX4_isCritical_33 : decode cX4_isCritical 33 = .ok (.ishl, 1) := by decide +kernel
theorem dX4_isCritical_34 : decode cX4_isCritical 34 = .ok (.iconst (-1), 1) := by decide +kernel
theorem dX4_isCritical_35 : decode cX4_isCritical 35 = .ok (.ixor, 1) := by decide +kernel
theorem dX4_isCritical_36 : decode cX4_isCritical 36 = .ok (.iand, 1) := by decide +kernel
theorem dX4_isCritical_37 : decode cX4_isCritical 37 = .ok (.iaload, 1) := by decide +kernel
theorem dX4_isCritical_38 : decode cX4_isCritical 38 = .ok (.imul, 1) := by decide +kernel
theorem dX4_isCritical_39 : decode cX4_isCritical 39 = .ok (.aload_n 0, 1) := by decide +kernel
theorem dX4_isCritical_40 : decode cX4_isCritical 40 = .ok (.getfield 33, 3) := by decide +kernel
theorem dX4_isCritical_43 : decode cX4_isCritical 43 = .ok (.getfield 56, 3) := by decide +kernel
theorem dX4_isCritical_46 : decode cX4_isCritical 46 = .ok (.iconst 1, 1) := by decide +kernel
theorem dX4_isCritical_47 : decode cX4_isCritical 47 = .ok (.isub, 1) := by decide +kernel
theorem dX4_isCritical_48 : decode cX4_isCritical 48 = .ok (.if_icmp .eq 5, 3) := by decide +kernel
theorem dX4_isCritical_51 : decode cX4_isCritical 51 = .ok (.iconst 0, 1) := by decide +kernel
theorem dX4_isCritical_52 : decode cX4_isCritical 52 = .ok (.ireturn, 1) := by decide +kernel
theorem dX4_isCritical_53 : decode cX4_isCritical 53 = .ok (.iinc 2 1, 3) := by decide +kernel
theorem dX4_isCritical_56 : decode cX4_isCritical 56 = .ok (.goto (-42), 3) := by decide +kernel
theorem dX4_isCritical_59 : decode cX4_isCritical 59 = .ok (.iconst 1, 1) := by decide +kernel
theorem dX4_isCritical_60 : decode cX4_isCritical 60 = .ok (.ireturn, 1) := by decide +kernel
theorem dX4_numberWithout_0 : decode cX4_numberWithout 0 = .ok (.aload_n 0, 1) := by decide +kernel
theorem dX4_numberWithout_1 : decode cX4_numberWithout 1 = .ok (.invokevirtual 62, 3) := by decide +kernel
theorem dX4_numberWithout_4 : decode cX4_numberWithout 4 = .ok (.aload_n 0, 1) := by decide +kernel
theorem dX4_numberWithout_5 : decode cX4_numberWithout 5 = .ok (.getfield 33, 3) := by decide +kernel
theorem dX4_numberWithout_8 : decode cX4_numberWithout 8 = .ok (.invokevirtual 48, 3) := by decide +kernel
theorem dX4_numberWithout_11 : decode cX4_numberWithout 11 = .ok (.iconst 1, 1) := by decide +kernel
theorem dX4_numberWithout_12 : decode cX4_numberWithout 12 = .ok (.iload_n 1, 1) := by decide +kernel
theorem dX4_numberWithout_13 : decode cX4_numberWithout 13 = .ok (.ishl, 1) := by decide +kernel
theorem dX4_numberWithout_14 : decode cX4_numberWithout 14 = .ok (.iconst (-1), 1) := by decide +kernel
theorem dX4_numberWithout_15 : decode cX4_numberWithout 15 = .ok (.ixor, 1) := by decide +kernel
theorem dX4_numberWithout_16 : decode cX4_numberWithout 16 = .ok (.iand, 1) := by decide +kernel
theorem dX4_numberWithout_17 : decode cX4_numberWithout 17 = .ok (.iconst 1, 1) := by decide +kernel
theorem dX4_numberWithout_18 : decode cX4_numberWithout 18 = .ok (.iload_n 2, 1) := by decide +kernel
theorem dX4_numberWithout_19 : decode cX4_numberWithout 19 = .ok (.ishl, 1) := by decide +kernel
theorem dX4_numberWithout_20 : decode cX4_numberWithout 20 = .ok (.iconst (-1), 1) := by decide +kernel
theorem dX4_numberWithout_21 : decode cX4_numberWithout 21 = .ok (.ixor, 1) := by decide +kernel
theorem dX4_numberWithout_22 : decode cX4_numberWithout 22 = .ok (.iand, 1) := by decide +kernel
theorem dX4_numberWithout_23 : decode cX4_numberWithout 23 = .ok (.istore_n 3, 1) := by decide +kernel
theorem dX4_numberWithout_24 : decode cX4_numberWithout 24 = .ok (.aload_n 0, 1) := by decide +kernel
theorem dX4_numberWithout_25 : decode cX4_numberWithout 25 = .ok (.iload_n 3, 1) := by decide +kernel
theorem dX4_numberWithout_26 : decode cX4_numberWithout 26 = .ok (.iconst 0, 1) := by decide +kernel
theorem dX4_numberWithout_27 : decode cX4_numberWithout 27 = .ok (.invokevirtual 52, 3) := by decide +kernel
theorem dX4_numberWithout_30 : decode cX4_numberWithout 30 = .ok (.aload_n 0, 1) := by decide +kernel
theorem dX4_numberWithout_31 : decode cX4_numberWithout 31 = .ok (.getfield 9, 3) := by decide +kernel
theorem dX4_numberWithout_34 : decode cX4_numberWithout 34 = .ok (.iload_n 3, 1) := by decide +kernel
theorem dX4_numberWithout_35 : decode cX4_numberWithout 35 = .ok (.iaload, 1) := by decide +kernel
theorem dX4_numberWithout_36 : decode cX4_numberWithout 36 = .ok (.ireturn, 1) := by decide +kernel
theorem dX4_having_0 : decode cX4_having 0 = .ok (.aload_n 0, 1) := by decide +kernel
theorem dX4_having_1 : decode cX4_having 1 = .ok (.getfield 33, 3) := by decide +kernel
theorem dX4_having_4 : decode cX4_having 4 = .ok (.iload_n 1, 1) := by decide +kernel
theorem dX4_having_5 : decode cX4_having 5 = .ok (.iload_n 2, 1) := by decide +kernel
theorem dX4_having_6 : decode cX4_having 6 = .ok (.invokevirtual 65, 3) := by decide +kernel
theorem dX4_having_9 : decode cX4_having 9 = .ok (.ifCond .ne 5, 3) := by decide +kernel
theorem dX4_having_12 : decode cX4_having 12 = .ok (.iconst 0, 1) := by decide +kernel
theorem dX4_having_13 : decode cX4_having 13 = .ok (.ireturn, 1) := by decide +kernel
theorem dX4_having_14 : decode cX4_having 14 = .ok (.aload_n 0, 1) := by decide +kernel
theorem dX4_having_15 : decode cX4_having 15 = .ok (.invokevirtual 62, 3) := by decide +kernel
theorem dX4_having_18 : decode cX4_having 18 = .ok (.aload_n 0, 1) := by decide +kernel
theorem dX4_having_19 : decode cX4_having 19 = .ok (.getfield 33, 3) := by decide +kernel
theorem dX4_having_22 : decode cX4_having 22 = .ok (.invokevirtual 48, 3) := by decide +kernel
theorem dX4_having_25 : decode cX4_having 25 = .ok (.istore_n 3, 1) := by decide +kernel
theorem dX4_having_26 : decode cX4_having 26 = .ok (.iload_n 3, 1) := by decide +kernel
theorem dX4_having_27 : decode cX4_having 27 = .ok (.iconst 1, 1) := by decide +kernel
theorem dX4_having_28 : decode cX4_having 28 = .ok (.iload_n 1, 1) := by decide +kernel
theorem dX4_having_29 : decode cX4_having 29 = .ok (.ishl, 1) := by decide +kernel
theorem dX4_having_30 : decode cX4_having 30 = .ok (.iconst (-1), 1) := by decide +kernel
theorem dX4_having_31 : decode cX4_having 31 = .ok (.ixor, 1) := by decide +kernel
theorem dX4_having_32 : decode cX4_having 32 = .ok (.iand, 1) := by decide +kernel
theorem dX4_having_33 : decode cX4_having 33 = .ok (.iconst 1, 1) := by decide +kernel
theorem dX4_having_34 : decode cX4_having 34 = .ok (.iload_n 2, 1) := by decide +kernel
theorem dX4_having_35 : decode cX4_having 35 = .ok (.ishl, 1) := by decide +kernel
theorem dX4_having_36 : decode cX4_having 36 = .ok (.iconst (-1), 1) := by decide +kernel
theorem dX4_having_37 : decode cX4_having 37 = .ok (.ixor, 1) := by decide +kernel
theorem dX4_having_38 : decode cX4_having 38 = .ok (.iand, 1) := by decide +kernel
theorem dX4_having_39 : decode cX4_having 39 = .ok (.istore 4, 2) := by decide +kernel
theorem dX4_having_41 : decode cX4_having 41 = .ok (.aload_n 0, 1) := by decide +kernel
theorem dX4_having_42 : decode cX4_having 42 = .ok (.iload 4, 2) := by decide +kernel
theorem dX4_having_44 : decode cX4_having 44 = .ok (.iconst 0, 1) := by decide +kernel
theorem dX4_having_45 : decode cX4_having 45 = .ok (.invokevirtual 52, 3) := by decide +kernel
theorem dX4_having_48 : decode cX4_having 48 = .ok (.aload_n 0, 1) := by decide +kernel
theorem dX4_having_49 : decode cX4_having 49 = .ok (.getfield 9, 3) := by decide +kernel
theorem dX4_having_52 : decode cX4_having 52 = .ok (.iload 4, 2) := by decide +kernel
theorem dX4_having_54 : decode cX4_having 54 = .ok (.iaload, 1) := by decide +kernel
theorem dX4_having_55 : decode cX4_having 55 = .ok (.iconst 1, 1) := by decide +kernel
theorem dX4_having_56 : decode cX4_having 56 = .ok (.iadd, 1) := by decide +kernel
theorem dX4_having_57 : decode cX4_having 57 = .ok (.aload_n 0, 1) := by decide +kernel
theorem dX4_having_58 : decode cX4_having 58 = .ok (.getfield 9, 3) := by decide +kernel
theorem dX4_having_61 : decode cX4_having 61 = .ok (.iload_n 3, 1) := by decide +kernel
theorem dX4_having_62 : decode cX4_having 62 = .ok (.iaload, 1) := by decide +kernel
theorem dX4_having_63 : decode cX4_having 63 = .ok (.if_icmp .ne 13, 3) := by decide +kernel
theorem dX4_having_66 : decode cX4_having 66 = .ok (.aload_n 0, 1) := by decide +kernel
theorem dX4_having_67 : decode cX4_having 67 = .ok (.getfield 15, 3) := by decide +kernel
theorem dX4_having_70 : decode cX4_having 70 = .ok (.iload 4, 2) := by decide +kernel
theorem dX4_having_72 : decode cX4_having 72 = .ok (.iaload, 1) := by decide +kernel
theorem dX4_having_73 : decode cX4_having 73 = .ok (.goto 4, 3) := by decide +kernel
theorem dX4_having_76 : decode cX4_having 76 = .ok (.iconst 0, 1) := by decide +kernel
theorem dX4_having_77 : decode cX4_having 77 = .ok (.ireturn, 1) := by decide +kernel
theorem dX4_edgesHadBy_0 : decode cX4_edgesHadBy 0 = .ok (.iconst 0, 1) := by decide +kernel
theorem dX4_edgesHadBy_1 : decode cX4_edgesHadBy 1 = .ok (.istore_n 2, 1) := by decide +kernel
theorem dX4_edgesHadBy_2 : decode cX4_edgesHadBy 2 = .ok (.iconst 0, 1) := by decide +kernel
theorem dX4_edgesHadBy_3 : decode cX4_edgesHadBy 3 = .ok (.istore_n 3, 1) := by decide +kernel
theorem dX4_edgesHadBy_4 : decode cX4_edgesHadBy 4 = .ok (.iload_n 3, 1) := by decide +kernel
theorem dX4_edgesHadBy_5 : decode cX4_edgesHadBy 5 = .ok (.aload_n 0, 1) := by decide +kernel
theorem dX4_edgesHadBy_6 : decode cX4_edgesHadBy 6 = .ok (.getfield 33, 3) := by decide +kernel
theorem dX4_edgesHadBy_9 : decode cX4_edgesHadBy 9 = .ok (.getfield 56, 3) := by decide +kernel
theorem dX4_edgesHadBy_12 : decode cX4_edgesHadBy 12 = .ok (.if_icmp .ge 59, 3) := by decide +kernel
theorem dX4_edgesHadBy_15 : decode cX4_edgesHadBy 15 = .ok (.iload_n 3, 1) := by decide +kernel
theorem dX4_edgesHadBy_16 : decode cX4_edgesHadBy 16 = .ok (.iconst 1, 1) := by decide +kernel
theorem dX4_edgesHadBy_17 : decode cX4_edgesHadBy 17 = .ok (.iadd, 1) := by decide +kernel
theorem dX4_edgesHadBy_18 : decode cX4_edgesHadBy 18 = .ok (.istore 4, 2) := by decide +kernel
theorem dX4_edgesHadBy_20 : decode cX4_edgesHadBy 20 = .ok (.iload 4, 2) := by decide +kernel
theorem dX4_edgesHadBy_22 : decode cX4_edgesHadBy 22 = .ok (.aload_n 0, 1) := by decide +kernel
theorem dX4_edgesHadBy_23 : decode cX4_edgesHadBy 23 = .ok (.getfield 33, 3) := by decide +kernel
theorem dX4_edgesHadBy_26 : decode cX4_edgesHadBy 26 = .ok (.getfield 56, 3) := by decide +kernel
theorem dX4_edgesHadBy_29 : decode cX4_edgesHadBy 29 = .ok (.if_icmp .ge 36, 3) := by decide +kernel
theorem dX4_edgesHadBy_32 : decode cX4_edgesHadBy 32 = .ok (.aload_n 0, 1) := by decide +kernel
theorem dX4_edgesHadBy_33 : decode cX4_edgesHadBy 33 = .ok (.getfield 33, 3) := by decide +kernel
theorem dX4_edgesHadBy_36 : decode cX4_edgesHadBy 36 = .ok (.iload_n 3, 1) := by decide +kernel
theorem dX4_edgesHadBy_37 : decode cX4_edgesHadBy 37 = .ok (.iload 4, 2) := by decide +kernel
theorem dX4_edgesHadBy_39 : decode cX4_edgesHadBy 39 = .ok (.invokevirtual 65, 3) := by decide +kernel
theorem dX4_edgesHadBy_42 : decode cX4_edgesHadBy 42 = .ok (.ifCond .eq 17, 3) := by decide +kernel
theorem dX4_edgesHadBy_45 : decode cX4_edgesHadBy 45 = .ok (.aload_n 0, 1) := by decide +kernel
theorem dX4_edgesHadBy_46 : decode cX4_edgesHadBy 46 = .ok (.iload_n 3, 1) := by decide +kernel
theorem dX4_edgesHadBy_47 : decode cX4_edgesHadBy 47 = .ok (.iload 4, 2) := by decide +kernel
theorem dX4_edgesHadBy_49 : decode cX4_edgesHadBy 49 = .ok (.invokevirtual 69, 3) := by decide +kernel
theorem dX4_edgesHadBy_52 : decode cX4_edgesHadBy 52 = .ok (.iload_n 1, 1) := by decide +kernel
theorem dX4_edgesHadBy_53 : decode cX4_edgesHadBy 53 = .ok (.if_icmp .ne 6, 3) := by decide +kernel
theorem dX4_edgesHadBy_56 : decode cX4_edgesHadBy 56 = .ok (.iinc 2 1, 3) := by decide +kernel
theorem dX4_edgesHadBy_59 : decode cX4_edgesHadBy 59 = .ok (.iinc 4 1, 3) := by decide +kernel
theorem dX4_edgesHadBy_62 : decode cX4_edgesHadBy 62 = .ok (.goto (-42), 3) := by decide +kernel
theorem dX4_edgesHadBy_65 : decode cX4_edgesHadBy 65 = .ok (.iinc 3 1, 3) := by decide +kernel
theorem dX4_edgesHadBy_68 : decode cX4_edgesHadBy 68 = .ok (.goto (-64), 3) := by decide +kernel
theorem dX4_edgesHadBy_71 : decode cX4_edgesHadBy 71 = .ok (.iload_n 2, 1) := by decide +kernel
theorem dX4_edgesHadBy_72 : decode cX4_edgesHadBy 72 = .ok (.ireturn, 1) := by decide +kernel
theorem dX4_first_0 : decode cX4_first 0 = .ok (.aload_n 0, 1) := by decide +kernel
theorem dX4_first_1 : decode cX4_first 1 = .ok (.invokevirtual 62, 3) := by decide +kernel
theorem dX4_first_4 : decode cX4_first 4 = .ok (.aload_n 0, 1) := by decide +kernel
theorem dX4_first_5 : decode cX4_first 5 = .ok (.getfield 25, 3) := by decide +kernel
theorem dX4_first_8 : decode cX4_first 8 = .ok (.ifCond .ne 12, 3) := by decide +kernel
theorem dX4_first_11 : decode cX4_first 11 = .ok (.aload_n 0, 1) := by decide +kernel
theorem dX4_first_12 : decode cX4_first 12 = .ok (.invokevirtual 73, 3) := by decide +kernel
theorem dX4_first_15 : decode cX4_first 15 = .ok (.aload_n 0, 1) := by decide +kernel
theorem dX4_first_16 : decode cX4_first 16 = .ok (.iconst 1, 1) := by decide +kernel
theorem dX4_first_17 : decode cX4_first 17 = .ok (.putfield 25, 3) := by decide +kernel
theorem dX4_first_20 : decode cX4_first 20 = .ok (.aload_n 0, 1) := by decide +kernel
theorem dX4_first_21 : decode cX4_first 21 = .ok (.getfield 21, 3) := by decide +kernel
theorem dX4_first_24 : decode cX4_first 24 = .ok (.areturn, 1) := by decide +kernel
theorem dX4_findFirst_0 : decode cX4_findFirst 0 = .ok (.aload_n 0, 1) := by decide +kernel
theorem dX4_findFirst_1 : decode cX4_findFirst 1 = .ok (.getfield 21, 3) := by decide +kernel
theorem dX4_findFirst_4 : decode cX4_findFirst 4 = .ok (.invokevirtual 76, 3) := by decide +kernel
theorem dX4_findFirst_7 : decode cX4_findFirst 7 = .ok (.aload_n 0, 1) := by decide +kernel
theorem dX4_findFirst_8 : decode cX4_findFirst 8 = .ok (.getfield 33, 3) := by decide +kernel
theorem dX4_findFirst_11 : decode cX4_findFirst 11 = .ok (.invokevirtual 48, 3) := by decide +kernel
theorem dX4_findFirst_14 : decode cX4_findFirst 14 = .ok (.istore_n 1, 1) := by decide +kernel
theorem dX4_findFirst_15 : decode cX4_findFirst 15 = .ok (.iconst 0, 1) := by decide +kernel
theorem dX4_findFirst_16 : decode cX4_findFirst 16 = .ok (.istore_n 2, 1) := by decide +kernel
theorem dX4_findFirst_17 : decode cX4_findFirst 17 = .ok (.iload_n 2, 1) := by decide +kernel
theorem dX4_findFirst_18 : decode cX4_findFirst 18 = .ok (.aload_n 0, 1) := by decide +kernel
theorem dX4_findFirst_19 : decode cX4_findFirst 19 = .ok (.getfield 33, 3) := by decide +kernel
theorem dX4_findFirst_22 : decode cX4_findFirst 22 = .ok (.getfield 56, 3) := by decide +kernel
theorem dX4_findFirst_25 : decode cX4_findFirst 25 = .ok (.if_icmp .ge 54, 3) := by decide +kernel
theorem dX4_findFirst_28 : decode cX4_findFirst 28 = .ok (.iload_n 1, 1) := by decide +kernel
theorem dX4_findFirst_29 : decode cX4_findFirst 29 = .ok (.iload_n 2, 1) := by decide +kernel
theorem dX4_findFirst_30 : decode cX4_findFirst 30 = .ok (.ishr, 1) := by decide +kernel
theorem dX4_findFirst_31 : decode cX4_findFirst 31 = .ok (.iconst 1, 1) := by decide +kernel
theorem dX4_findFirst_32 : decode cX4_findFirst 32 = .ok (.iand, 1) := by decide +kernel
theorem dX4_findFirst_33 : decode cX4_findFirst 33 = .ok (.ifCond .eq 40, 3) := by decide +kernel
theorem dX4_findFirst_36 : decode cX4_findFirst 36 = .ok (.aload_n 0, 1) := by decide +kernel
theorem dX4_findFirst_37 : decode cX4_findFirst 37 = .ok (.iload_n 2, 1) := by decide +kernel
theorem dX4_findFirst_38 : decode cX4_findFirst 38 = .ok (.iload_n 1, 1) := by decide +kernel
theorem dX4_findFirst_39 : decode cX4_findFirst 39 = .ok (.invokevirtual 79, 3) := by decide +kernel
theorem dX4_findFirst_42 : decode cX4_findFirst 42 = .ok (.istore_n 3, 1) := by decide +kernel
theorem dX4_findFirst_43 : decode cX4_findFirst 43 = .ok (.iload_n 1, 1) := by decide +kernel
theorem dX4_findFirst_44 : decode cX4_findFirst 44 = .ok (.iconst 1, 1) := by decide +kernel
theorem dX4_findFirst_45 : decode cX4_findFirst 45 = .ok (.iload_n 2, 1) := by decide +kernel
theorem dX4_findFirst_46 : decode cX4_findFirst 46 = .ok (.ishl, 1) := by decide +kernel
theorem dX4_findFirst_47 : decode cX4_findFirst 47 = .ok (.iconst (-1), 1) := by decide +kernel
theorem dX4_findFirst_48 : decode cX4_findFirst 48 = .ok (.ixor, 1) := by decide +kernel
theorem dX4_findFirst_49 : decode cX4_findFirst 49 = .ok (.iand, 1) := by decide +kernel
theorem dX4_findFirst_50 : decode cX4_findFirst 50 = .ok (.istore_n 1, 1) := by decide +kernel
theorem dX4_findFirst_51 : decode cX4_findFirst 51 = .ok (.iload_n 3, 1) := by decide +kernel
theorem dX4_findFirst_52 : decode cX4_findFirst 52 = .ok (.iconst (-1), 1) := by decide +kernel
theorem dX4_findFirst_53 : decode cX4_findFirst 53 = .ok (.if_icmp .eq 20, 3) := by decide +kernel
theorem dX4_findFirst_56 : decode cX4_findFirst 56 = .ok (.aload_n 0, 1) := by decide +kernel
theorem dX4_findFirst_57 : decode cX4_findFirst 57 = .ok (.getfield 21, 3) := by decide +kernel
theorem dX4_findFirst_60 : decode cX4_findFirst 60 = .ok (.iload_n 2, 1) := by decide +kernel
theorem dX4_findFirst_61 : decode cX4_findFirst 61 = .ok (.iload_n 3, 1) := by decide +kernel
theorem dX4_findFirst_62 : decode cX4_findFirst 62 = .ok (.invokevirtual 82, 3) := by decide +kernel
theorem dX4_findFirst_65 : decode cX4_findFirst 65 = .ok (.iload_n 1, 1) := by decide +kernel
theorem dX4_findFirst_66 : decode cX4_findFirst 66 = .ok (.iconst 1, 1) := by decide +kernel
theorem dX4_findFirst_67 : decode cX4_findFirst 67 = .ok (.iload_n 3, 1) := by decide +kernel
theorem dX4_findFirst_68 : decode cX4_findFirst 68 = .ok (.ishl, 1) := by decide +kernel
theorem dX4_findFirst_69 : decode cX4_findFirst 69 = .ok (.iconst (-1), 1) := by decide +kernel
theorem dX4_findFirst_70 : decode cX4_findFirst 70 = .ok (.ixor, 1) := by decide +kernel
theorem dX4_findFirst_71 : decode cX4_findFirst 71 = .ok (.iand, 1) := by decide +kernel
theorem dX4_findFirst_72 : decode cX4_findFirst 72 = .ok (.istore_n 1, 1) := by decide +kernel
theorem dX4_findFirst_73 : decode cX4_findFirst 73 = .ok (.iinc 2 1, 3) := by decide +kernel
theorem dX4_findFirst_76 : decode cX4_findFirst 76 = .ok (.goto (-59), 3) := by decide +kernel
theorem dX4_findFirst_79 : decode cX4_findFirst 79 = .ok (.return_, 1) := by decide +kernel
theorem dX4_leastMate_0 : decode cX4_leastMate 0 = .ok (.aload_n 0, 1) := by decide +kernel
theorem dX4_leastMate_1 : decode cX4_leastMate 1 = .ok (.iload_n 2, 1) := by decide +kernel
theorem dX4_leastMate_2 : decode cX4_leastMate 2 = .ok (.iload_n 1, 1) := by decide +kernel
theorem dX4_leastMate_3 : decode cX4_leastMate 3 = .ok (.invokevirtual 52, 3) := by decide +kernel
theorem dX4_leastMate_6 : decode cX4_leastMate 6 = .ok (.aload_n 0, 1) := by decide +kernel
theorem dX4_leastMate_7 : decode cX4_leastMate 7 = .ok (.getfield 33, 3) := by decide +kernel
theorem dX4_leastMate_10 : decode cX4_leastMate 10 = .ok (.getfield 59, 3) := by decide +kernel
theorem dX4_leastMate_13 : decode cX4_leastMate 13 = .ok (.iload_n 1, 1) := by decide +kernel
theorem dX4_leastMate_14 : decode cX4_leastMate 14 = .ok (.iaload, 1) := by decide +kernel
theorem dX4_leastMate_15 : decode cX4_leastMate 15 = .ok (.iload_n 2, 1) := by decide +kernel
theorem dX4_leastMate_16 : decode cX4_leastMate 16 = .ok (.iand, 1) := by decide +kernel
theorem dX4_leastMate_17 : decode cX4_leastMate 17 = .ok (.istore_n 3, 1) := by decide +kernel
theorem dX4_leastMate_18 : decode cX4_leastMate 18 = .ok (.iload_n 1, 1) := by decide +kernel
theorem dX4_leastMate_19 : decode cX4_leastMate 19 = .ok (.iconst 1, 1) := by decide +kernel
theorem dX4_leastMate_20 : decode cX4_leastMate 20 = .ok (.iadd, 1) := by decide +kernel
theorem dX4_leastMate_21 : decode cX4_leastMate 21 = .ok (.istore 4, 2) := by decide +kernel
theorem dX4_leastMate_23 : decode cX4_leastMate 23 = .ok (.iload 4, 2) := by decide +kernel
theorem dX4_leastMate_25 : decode cX4_leastMate 25 = .ok (.aload_n 0, 1) := by decide +kernel
theorem dX4_leastMate_26 : decode cX4_leastMate 26 = .ok (.getfield 33, 3) := by decide +kernel
theorem dX4_leastMate_29 : decode cX4_leastMate 29 = .ok (.getfield 56, 3) := by decide +kernel
theorem dX4_leastMate_32 : decode cX4_leastMate 32 = .ok (.if_icmp .ge 67, 3) := by decide +kernel
theorem dX4_leastMate_35 : decode cX4_leastMate 35 = .ok (.iload_n 3, 1) := by decide +kernel
theorem dX4_leastMate_36 : decode cX4_leastMate 36 = .ok (.iload 4, 2) := by decide +kernel
theorem dX4_leastMate_38 : decode cX4_leastMate 38 = .ok (.ishr, 1) := by decide +kernel
theorem dX4_leastMate_39 : decode cX4_leastMate 39 = .ok (.iconst 1, 1) := by decide +kernel
theorem dX4_leastMate_40 : decode cX4_leastMate 40 = .ok (.iand, 1) := by decide +kernel
theorem dX4_leastMate_41 : decode cX4_leastMate 41 = .ok (.ifCond .ne 6, 3) := by decide +kernel
theorem dX4_leastMate_44 : decode cX4_leastMate 44 = .ok (.goto 49, 3) := by decide +kernel
theorem dX4_leastMate_47 : decode cX4_leastMate 47 = .ok (.iload_n 2, 1) := by decide +kernel
theorem dX4_leastMate_48 : decode cX4_leastMate 48 = .ok (.iconst 1, 1) := by decide +kernel
theorem dX4_leastMate_49 : decode cX4_leastMate 49 = .ok (.iload_n 1, 1) := by decide +kernel
theorem dX4_leastMate_50 : decode cX4_leastMate 50 = .ok (.ishl, 1) := by decide +kernel
theorem dX4_leastMate_51 : decode cX4_leastMate 51 = .ok (.iconst (-1), 1) := by decide +kernel
theorem dX4_leastMate_52 : decode cX4_leastMate 52 = .ok (.ixor, 1) := by decide +kernel
theorem dX4_leastMate_53 : decode cX4_leastMate 53 = .ok (.iand, 1) := by decide +kernel
theorem dX4_leastMate_54 : decode cX4_leastMate 54 = .ok (.iconst 1, 1) := by decide +kernel
theorem dX4_leastMate_55 : decode cX4_leastMate 55 = .ok (.iload 4, 2) := by decide +kernel
theorem dX4_leastMate_57 : decode cX4_leastMate 57 = .ok (.ishl, 1) := by decide +kernel
theorem dX4_leastMate_58 : decode cX4_leastMate 58 = .ok (.iconst (-1), 1) := by decide +kernel
theorem dX4_leastMate_59 : decode cX4_leastMate 59 = .ok (.ixor, 1) := by decide +kernel
theorem dX4_leastMate_60 : decode cX4_leastMate 60 = .ok (.iand, 1) := by decide +kernel
theorem dX4_leastMate_61 : decode cX4_leastMate 61 = .ok (.istore 5, 2) := by decide +kernel
theorem dX4_leastMate_63 : decode cX4_leastMate 63 = .ok (.aload_n 0, 1) := by decide +kernel
theorem dX4_leastMate_64 : decode cX4_leastMate 64 = .ok (.iload 5, 2) := by decide +kernel
theorem dX4_leastMate_66 : decode cX4_leastMate 66 = .ok (.iload_n 1, 1) := by decide +kernel
theorem dX4_leastMate_67 : decode cX4_leastMate 67 = .ok (.iconst 1, 1) := by decide +kernel
theorem dX4_leastMate_68 : decode cX4_leastMate 68 = .ok (.iadd, 1) := by decide +kernel
theorem dX4_leastMate_69 : decode cX4_leastMate 69 = .ok (.invokevirtual 52, 3) := by decide +kernel
theorem dX4_leastMate_72 : decode cX4_leastMate 72 = .ok (.aload_n 0, 1) := by decide +kernel
theorem dX4_leastMate_73 : decode cX4_leastMate 73 = .ok (.getfield 9, 3) := by decide +kernel
theorem dX4_leastMate_76 : decode cX4_leastMate 76 = .ok (.iload 5, 2) := by decide +kernel
theorem dX4_leastMate_78 : decode cX4_leastMate 78 = .ok (.iaload, 1) := by decide +kernel
theorem dX4_leastMate_79 : decode cX4_leastMate 79 = .ok (.iconst 1, 1) := by decide +kernel
theorem dX4_leastMate_80 : decode cX4_leastMate 80 = .ok (.iadd, 1) := by decide +kernel
theorem dX4_leastMate_81 : decode cX4_leastMate 81 = .ok (.aload_n 0, 1) := by decide +kernel
theorem dX4_leastMate_82 : decode cX4_leastMate 82 = .ok (.getfield 9, 3) := by decide +kernel
theorem dX4_leastMate_85 : decode cX4_leastMate 85 = .ok (.iload_n 2, 1) := by decide +kernel
theorem dX4_leastMate_86 : decode cX4_leastMate 86 = .ok (.iaload, 1) := by decide +kernel
theorem dX4_leastMate_87 : decode cX4_leastMate 87 = .ok (.if_icmp .ne 6, 3) := by decide +kernel
theorem dX4_leastMate_90 : decode cX4_leastMate 90 = .ok (.iload 4, 2) := by decide +kernel
theorem dX4_leastMate_92 : decode cX4_leastMate 92 = .ok (.ireturn, 1) := by decide +kernel
theorem dX4_leastMate_93 : decode cX4_leastMate 93 = .ok (.iinc 4 1, 3) := by decide +kernel
theorem dX4_leastMate_96 : decode cX4_leastMate 96 = .ok (.goto (-73), 3) := by decide +kernel
theorem dX4_leastMate_99 : decode cX4_leastMate 99 = .ok (.iconst (-1), 1) := by decide +kernel
theorem dX4_leastMate_100 : decode cX4_leastMate 100 = .ok (.ireturn, 1) := by decide +kernel
theorem dX5_init_0 : decode cX5_init 0 = .ok (.aload_n 0, 1) := by decide +kernel
theorem dX5_init_1 : decode cX5_init 1 = .ok (.invokespecial 3, 3) := by decide +kernel
theorem dX5_init_4 : decode cX5_init 4 = .ok (.aload_n 0, 1) := by decide +kernel
theorem dX5_init_5 : decode cX5_init 5 = .ok (.bipush 12, 2) := by decide +kernel
theorem dX5_init_7 : decode cX5_init 7 = .ok (.newarray .int, 2) := by decide +kernel
theorem dX5_init_9 : decode cX5_init 9 = .ok (.putfield 9, 3) := by decide +kernel
theorem dX5_init_12 : decode cX5_init 12 = .ok (.aload_n 0, 1) := by decide +kernel
theorem dX5_init_13 : decode cX5_init 13 = .ok (.bipush 64, 2) := by decide +kernel
theorem dX5_init_15 : decode cX5_init 15 = .ok (.newarray .int, 2) := by decide +kernel
theorem dX5_init_17 : decode cX5_init 17 = .ok (.putfield 15, 3) := by decide +kernel
theorem dX5_init_20 : decode cX5_init 20 = .ok (.aload_n 0, 1) := by decide +kernel
theorem dX5_init_21 : decode cX5_init 21 = .ok (.bipush 12, 2) := by decide +kernel
theorem dX5_init_23 : decode cX5_init 23 = .ok (.newarray .int, 2) := by decide +kernel
theorem dX5_init_25 : decode cX5_init 25 = .ok (.putfield 18, 3) := by decide +kernel
theorem dX5_init_28 : decode cX5_init 28 = .ok (.aload_n 0, 1) := by decide +kernel
theorem dX5_init_29 : decode cX5_init 29 = .ok (.iconst 0, 1) := by decide +kernel
theorem dX5_init_30 : decode cX5_init 30 = .ok (.putfield 21, 3) := by decide +kernel
theorem dX5_init_33 : decode cX5_init 33 = .ok (.aload_n 0, 1) := by decide +kernel
theorem dX5_init_34 : decode cX5_init 34 = .ok (.iconst 0, 1) := by decide +kernel
theorem dX5_init_35 : decode cX5_init 35 = .ok (.putfield 25, 3) := by decide +kernel
theorem dX5_init_38 : decode cX5_init 38 = .ok (.aload_n 0, 1) := by decide +kernel
theorem dX5_init_39 : decode cX5_init 39 = .ok (.aload_n 1, 1) := by decide +kernel
theorem dX5_init_40 : decode cX5_init 40 = .ok (.putfield 28, 3) := by decide +kernel
theorem dX5_init_43 : decode cX5_init 43 = .ok (.aload_n 0, 1) := by decide +kernel
theorem dX5_init_44 : decode cX5_init 44 = .ok (.aload_n 2, 1) := by decide +kernel
theorem dX5_init_45 : decode cX5_init 45 = .ok (.putfield 32, 3) := by decide +kernel
theorem dX5_init_48 : decode cX5_init 48 = .ok (.return_, 1) := by decide +kernel
theorem dX5_numberPairs_0 : decode cX5_numberPairs 0 = .ok (.iconst 1, 1) := by decide +kernel
theorem dX5_numberPairs_1 : decode cX5_numberPairs 1 = .ok (.istore_n 1, 1) := by decide +kernel
theorem dX5_numberPairs_2 : decode cX5_numberPairs 2 = .ok (.iconst 0, 1) := by decide +kernel
theorem dX5_numberPairs_3 : decode cX5_numberPairs 3 = .ok (.istore_n 2, 1) := by decide +kernel
theorem dX5_numberPairs_4 : decode cX5_numberPairs 4 = .ok (.iload_n 2, 1) := by decide +kernel
theorem dX5_numberPairs_5 : decode cX5_numberPairs 5 = .ok (.aload_n 0, 1) := by decide +kernel
theorem dX5_numberPairs_6 : decode cX5_numberPairs 6 = .ok (.getfield 28, 3) := by decide +kernel
theorem dX5_numberPairs_9 : decode cX5_numberPairs 9 = .ok (.getfield 36, 3) := by decide +kernel
theorem dX5_numberPairs_12 : decode cX5_numberPairs 12 = .ok (.if_icmp .ge 57, 3) := by decide +kernel
theorem dX5_numberPairs_15 : decode cX5_numberPairs 15 = .ok (.aload_n 0, 1) := by decide +kernel
theorem dX5_numberPairs_16 : decode cX5_numberPairs 16 = .ok (.getfield 32, 3) := by decide +kernel
theorem dX5_numberPairs_19 : decode cX5_numberPairs 19 = .ok (.getfield 41, 3) := by decide +kernel
theorem dX5_numberPairs_22 : decode cX5_numberPairs 22 = .ok (.iload_n 2, 1) := by decide +kernel
theorem dX5_numberPairs_23 : decode cX5_numberPairs 23 = .ok (.iaload, 1) := by decide +kernel
theorem dX5_numberPairs_24 : decode cX5_numberPairs 24 = .ok (.istore_n 3, 1) := by decide +kernel
theorem dX5_numberPairs_25 : decode cX5_numberPairs 25 = .ok (.iload_n 3, 1) := by decide +kernel
theorem dX5_numberPairs_26 : decode cX5_numberPairs 26 = .ok (.iconst (-1), 1) := by decide +kernel
theorem dX5_numberPairs_27 : decode cX5_numberPairs 27 = .ok (.if_icmp .ne 13, 3) := by decide +kernel
theorem dX5_numberPairs_30 : decode cX5_numberPairs 30 = .ok (.aload_n 0, 1) := by decide +kernel
theorem dX5_numberPairs_31 : decode cX5_numberPairs 31 = .ok (.getfield 9, 3) := by decide +kernel
theorem dX5_numberPairs_34 : decode cX5_numberPairs 34 = .ok (.iload_n 2, 1) := by decide +kernel
theorem dX5_numberPairs_35 : decode cX5_numberPairs 35 = .ok (.iconst 0, 1) := by decide +kernel
theorem dX5_numberPairs_36 : decode cX5_numberPairs 36 = .ok (.iastore, 1) := by decide +kernel
theorem dX5_numberPairs_37 : decode cX5_numberPairs 37 = .ok (.goto 26, 3) := by decide +kernel
theorem dX5_numberPairs_40 : decode cX5_numberPairs 40 = .ok (.iload_n 3, 1) := by decide +kernel
theorem dX5_numberPairs_41 : decode cX5_numberPairs 41 = .ok (.iload_n 2, 1) := by decide +kernel
theorem dX5_numberPairs_42 : decode cX5_numberPairs 42 = .ok (.if_icmp .le 21, 3) := by decide +kernel
theorem dX5_numberPairs_45 : decode cX5_numberPairs 45 = .ok (.aload_n 0, 1) := by decide +kernel
theorem dX5_numberPairs_46 : decode cX5_numberPairs 46 = .ok (.getfield 9, 3) := by decide +kernel
theorem dX5_numberPairs_49 : decode cX5_numberPairs 49 = .ok (.iload_n 2, 1) := by decide +kernel
theorem dX5_numberPairs_50 : decode cX5_numberPairs 50 = .ok (.iload_n 1, 1) := by decide +kernel
theorem dX5_numberPairs_51 : decode cX5_numberPairs 51 = .ok (.iastore, 1) := by decide +kernel
theorem dX5_numberPairs_52 : decode cX5_numberPairs 52 = .ok (.aload_n 0, 1) := by decide +kernel
theorem dX5_numberPairs_53 : decode cX5_numberPairs 53 = .ok (.getfield 9, 3) := by decide +kernel
theorem dX5_numberPairs_56 : decode cX5_numberPairs 56 = .ok (.iload_n 3, 1) := by decide +kernel
theorem dX5_numberPairs_57 : decode cX5_numberPairs 57 = .ok (.iload_n 1, 1) := by decide +kernel
theorem dX5_numberPairs_58 : decode cX5_numberPairs 58 = .ok (.iastore, 1) := by decide +kernel
theorem dX5_numberPairs_59 : decode cX5_numberPairs 59 = .ok (.iload_n 1, 1) := by decide +kernel
theorem dX5_numberPairs_60 : decode cX5_numberPairs 60 = .ok (.iconst 1, 1) := by decide +kernel
theorem dX5_numberPairs_61 : decode cX5_numberPairs 61 = .ok (.ishl, 1) := by decide +kernel
theorem dX5_numberPairs_62 : decode cX5_numberPairs 62 = .ok (.istore_n 1, 1) := by decide +kernel
theorem dX5_numberPairs_63 : decode cX5_numberPairs 63 = .ok (.iinc 2 1, 3) := by decide +kernel
theorem dX5_numberPairs_66 : decode cX5_numberPairs 66 = .ok (.goto (-62), 3) := by decide +kernel
theorem dX5_numberPairs_69 : decode cX5_numberPairs 69 = .ok (.return_, 1) := by decide +kernel
theorem dX5_findEnds_0 : decode cX5_findEnds 0 = .ok (.aload_n 0, 1) := by decide +kernel
theorem dX5_findEnds_1 : decode cX5_findEnds 1 = .ok (.invokevirtual 46, 3) := by decide +kernel
theorem dX5_findEnds_4 : decode cX5_findEnds 4 = .ok (.aload_n 0, 1) := by decide +kernel
theorem dX5_findEnds_5 : decode cX5_findEnds 5 = .ok (.getfield 15, 3) := by decide +kernel
theorem dX5_findEnds_8 : decode cX5_findEnds 8 = .ok (.iconst 0, 1) := by decide +kernel
theorem dX5_findEnds_9 : decode cX5_findEnds 9 = .ok (.invokestatic 49, 3) := by decide +kernel
theorem dX5_findEnds_12 : decode cX5_findEnds 12 = .ok (.aload_n 0, 1) := by decide +kernel
theorem dX5_findEnds_13 : decode cX5_findEnds 13 = .ok (.getfield 15, 3) := by decide +kernel
theorem dX5_findEnds_16 : decode cX5_findEnds 16 = .ok (.iconst 0, 1) := by decide +kernel
theorem dX5_findEnds_17 : decode cX5_findEnds 17 = .ok (.iconst 1, 1) := by decide +kernel
theorem dX5_findEnds_18 : decode cX5_findEnds 18 = .ok (.iload_n 1, 1) := by decide +kernel
theorem dX5_findEnds_19 : decode cX5_findEnds 19 = .ok (.ishl, 1) := by decide +kernel
theorem dX5_findEnds_20 : decode cX5_findEnds 20 = .ok (.iastore, 1) := by decide +kernel
theorem dX5_findEnds_21 : decode cX5_findEnds 21 = .ok (.aload_n 0, 1) := by decide +kernel
theorem dX5_findEnds_22 : decode cX5_findEnds 22 = .ok (.iconst 0, 1) := by decide +kernel
theorem dX5_findEnds_23 : decode cX5_findEnds 23 = .ok (.putfield 21, 3) := by decide +kernel
theorem dX5_findEnds_26 : decode cX5_findEnds 26 = .ok (.aload_n 0, 1) := by decide +kernel
theorem dX5_findEnds_27 : decode cX5_findEnds 27 = .ok (.iconst 0, 1) := by decide +kernel
theorem dX5_findEnds_28 : decode cX5_findEnds 28 = .ok (.putfield 25, 3) := by decide +kernel
theorem dX5_findEnds_31 : decode cX5_findEnds 31 = .ok (.iconst 0, 1) := by decide +kernel
theorem dX5_findEnds_32 : decode cX5_findEnds 32 = .ok (.istore_n 2, 1) := by decide +kernel
theorem dX5_findEnds_33 : decode cX5_findEnds 33 = .ok (.iload_n 2, 1) := by decide +kernel
theorem dX5_findEnds_34 : decode cX5_findEnds 34 = .ok (.aload_n 0, 1) := by decide +kernel
theorem dX5_findEnds_35 : decode cX5_findEnds 35 = .ok (.getfield 15, 3) := by decide +kernel
theorem dX5_findEnds_38 : decode cX5_findEnds 38 = .ok (.arraylength, 1) := by decide +kernel
theorem dX5_findEnds_39 : decode cX5_findEnds 39 = .ok (.if_icmp .ge 63, 3) := by decide +kernel
theorem dX5_findEnds_42 : decode cX5_findEnds 42 = .ok (.aload_n 0, 1) := by decide +kernel
theorem dX5_findEnds_43 : decode cX5_findEnds 43 = .ok (.dup, 1) := by decide +kernel
theorem dX5_findEnds_44 : decode cX5_findEnds 44 = .ok (.getfield 21, 3) := by decide +kernel
theorem dX5_findEnds_47 : decode cX5_findEnds 47 = .ok (.aload_n 0, 1) := by decide +kernel
theorem dX5_findEnds_48 : decode cX5_findEnds 48 = .ok (.getfield 15, 3) := by decide +kernel
theorem dX5_findEnds_51 : decode cX5_findEnds 51 = .ok (.iload_n 2, 1) := by decide +kernel
theorem dX5_findEnds_52 : decode cX5_findEnds 52 = .ok (.iaload, 1) := by decide +kernel
theorem dX5_findEnds_53 : decode cX5_findEnds 53 = .ok (.ior, 1) := by decide +kernel
theorem dX5_findEnds_54 : decode cX5_findEnds 54 = .ok (.putfield 21, 3) := by decide +kernel
theorem dX5_findEnds_57 : decode cX5_findEnds 57 = .ok (.iconst 0, 1) := by decide +kernel
theorem dX5_findEnds_58 : decode cX5_findEnds 58 = .ok (.istore_n 3, 1) := by decide +kernel
theorem dX5_findEnds_59 : decode cX5_findEnds 59 = .ok (.iload_n 3, 1) := by decide +kernel
theorem dX5_findEnds_60 : decode cX5_findEnds 60 = .ok (.aload_n 0, 1) := by decide +kernel
theorem dX5_findEnds_61 : decode cX5_findEnds 61 = .ok (.getfield 28, 3) := by decide +kernel
theorem dX5_findEnds_64 : decode cX5_findEnds 64 = .ok (.getfield 36, 3) := by decide +kernel
theorem dX5_findEnds_67 : decode cX5_findEnds 67 = .ok (.if_icmp .ge 29, 3) := by decide +kernel
theorem dX5_findEnds_70 : decode cX5_findEnds 70 = .ok (.aload_n 0, 1) := by decide +kernel
theorem dX5_findEnds_71 : decode cX5_findEnds 71 = .ok (.getfield 15, 3) := by decide +kernel
theorem dX5_findEnds_74 : decode cX5_findEnds 74 = .ok (.iload_n 2, 1) := by decide +kernel
theorem dX5_findEnds_75 : decode cX5_findEnds 75 = .ok (.iaload, 1) := by decide +kernel
theorem dX5_findEnds_76 : decode cX5_findEnds 76 = .ok (.iload_n 3, 1) := by decide +kernel
theorem dX5_findEnds_77 : decode cX5_findEnds 77 = .ok (.ishr, 1) := by decide +kernel
theorem dX5_findEnds_78 : decode cX5_findEnds 78 = .ok (.iconst 1, 1) := by decide +kernel
theorem dX5_findEnds_79 : decode cX5_findEnds 79 = .ok (.iand, 1) := by decide +kernel
theorem dX5_findEnds_80 : decode cX5_findEnds 80 = .ok (.ifCond .eq 10, 3) := by decide +kernel
theorem dX5_findEnds_83 : decode cX5_findEnds 83 = .ok (.aload_n 0, 1) := by decide +kernel
theorem dX5_findEnds_84 : decode cX5_findEnds 84 = .ok (.iload_n 3, 1) := by decide +kernel
theorem dX5_findEnds_85 : decode cX5_findEnds 85 = .ok (.iload_n 2, 1) := by decide +kernel
theorem dX5_findEnds_86 : decode cX5_findEnds 86 = .ok (.iload_n 1, 1) := by decide +kernel
theorem dX5_findEnds_87 : decode cX5_findEnds 87 = .ok (.invokevirtual 55, 3) := by decide +kernel
theorem dX5_findEnds_90 : decode cX5_findEnds 90 = .ok (.iinc 3 1, 3) := by decide +kernel
theorem dX5_findEnds_93 : decode cX5_findEnds 93 = .ok (.goto (-34), 3) := by decide +kernel
theorem dX5_findEnds_96 : decode cX5_findEnds 96 = .ok (.iinc 2 1, 3) := by decide +kernel
theorem dX5_findEnds_99 : decode cX5_findEnds 99 = .ok (.goto (-66), 3) := by decide +kernel
theorem dX5_findEnds_102 : decode cX5_findEnds 102 = .ok (.return_, 1) := by decide +kernel
theorem dX5_followFrom_0 : decode cX5_followFrom 0 = .ok (.iconst 0, 1) := by decide +kernel
theorem dX5_followFrom_1 : decode cX5_followFrom 1 = .ok (.istore 4, 2) := by decide +kernel
theorem dX5_followFrom_3 : decode cX5_followFrom 3 = .ok (.iload 4, 2) := by decide +kernel
theorem dX5_followFrom_5 : decode cX5_followFrom 5 = .ok (.aload_n 0, 1) := by decide +kernel
theorem dX5_followFrom_6 : decode cX5_followFrom 6 = .ok (.getfield 28, 3) := by decide +kernel
theorem dX5_followFrom_9 : decode cX5_followFrom 9 = .ok (.getfield 36, 3) := by decide +kernel
theorem dX5_followFrom_12 : decode cX5_followFrom 12 = .ok (.if_icmp .ge 89, 3) := by decide +kernel
theorem dX5_followFrom_15 : decode cX5_followFrom 15 = .ok (.aload_n 0, 1) := by decide +kernel
theorem dX5_followFrom_16 : decode cX5_followFrom 16 = .ok (.getfield 9, 3) := by decide +kernel
theorem dX5_followFrom_19 : decode cX5_followFrom 19 = .ok (.iload 4, 2) := by decide +kernel
theorem dX5_followFrom_21 : decode cX5_followFrom 21 = .ok (.iaload, 1) := by decide +kernel
theorem dX5_followFrom_22 : decode cX5_followFrom 22 = .ok (.istore 5, 2) := by decide +kernel
theorem dX5_followFrom_24 : decode cX5_followFrom 24 = .ok (.iload 4, 2) := by decide +kernel
theorem dX5_followFrom_26 : decode cX5_followFrom 26 = .ok (.iload_n 3, 1) := by decide +kernel
theorem dX5_followFrom_27 : decode cX5_followFrom 27 = .ok (.if_icmp .eq 68, 3) := by decide +kernel
theorem dX5_followFrom_30 : decode cX5_followFrom 30 = .ok (.aload_n 0, 1) := by decide +kernel
theorem dX5_followFrom_31 : decode cX5_followFrom 31 = .ok (.getfield 28, 3) := by decide +kernel
theorem dX5_followFrom_34 : decode cX5_followFrom 34 = .ok (.iload_n 1, 1) := by decide +kernel
theorem dX5_followFrom_35 : decode cX5_followFrom 35 = .ok (.iload 4, 2) := by decide +kernel
theorem dX5_followFrom_37 : decode cX5_followFrom 37 = .ok (.invokevirtual 59, 3) := by decide +kernel
theorem dX5_followFrom_40 : decode cX5_followFrom 40 = .ok (.ifCond .eq 55, 3) := by decide +kernel
theorem dX5_followFrom_43 : decode cX5_followFrom 43 = .ok (.iload 5, 2) := by decide +kernel
theorem dX5_followFrom_45 : decode cX5_followFrom 45 = .ok (.iload_n 2, 1) := by decide +kernel
theorem dX5_followFrom_46 : decode cX5_followFrom 46 = .ok (.iand, 1) := by decide +kernel
theorem dX5_followFrom_47 : decode cX5_followFrom 47 = .ok (.ifCond .eq 6, 3) := by decide +kernel
theorem dX5_followFrom_50 : decode cX5_followFrom 50 = .ok (.goto 45, 3) := by decide +kernel
theorem dX5_followFrom_53 : decode cX5_followFrom 53 = .ok (.aload_n 0, 1) := by decide +kernel
theorem dX5_followFrom_54 : decode cX5_followFrom 54 = .ok (.dup, 1) := by decide +kernel
theorem dX5_followFrom_55 : decode cX5_followFrom 55 = .ok (.getfield 25, 3) := by decide +kernel
theorem dX5_followFrom_58 : decode cX5_followFrom 58 = .ok (.iconst 1, 1) := by decide +kernel
theorem dX5_followFrom_59 : decode cX5_followFrom 59 = .ok (.iload 4, 2) := by decide +kernel
theorem dX5_followFrom_61 : decode cX5_followFrom 61 = .ok (.ishl, 1) := by decide +kernel
theorem dX5_followFrom_62 : decode cX5_followFrom 62 = .ok (.ior, 1) := by decide +kernel
theorem dX5_followFrom_63 : decode cX5_followFrom 63 = .ok (.putfield 25, 3) := by decide +kernel
theorem dX5_followFrom_66 : decode cX5_followFrom 66 = .ok (.iload 5, 2) := by decide +kernel
theorem dX5_followFrom_68 : decode cX5_followFrom 68 = .ok (.ifCond .eq 27, 3) := by decide +kernel
theorem dX5_followFrom_71 : decode cX5_followFrom 71 = .ok (.aload_n 0, 1) := by decide +kernel
theorem dX5_followFrom_72 : decode cX5_followFrom 72 = .ok (.getfield 15, 3) := by decide +kernel
theorem dX5_followFrom_75 : decode cX5_followFrom 75 = .ok (.iload_n 2, 1) := by decide +kernel
theorem dX5_followFrom_76 : decode cX5_followFrom 76 = .ok (.iload 5, 2) := by decide +kernel
theorem dX5_followFrom_78 : decode cX5_followFrom 78 = .ok (.ior, 1) := by decide +kernel
theorem dX5_followFrom_79 : decode cX5_followFrom 79 = .ok (.dup2, 1) := by decide +kernel
theorem dX5_followFrom_80 : decode cX5_followFrom 80 = .ok (.iaload, 1) := by decide +kernel
theorem dX5_followFrom_81 : decode cX5_followFrom 81 = .ok (.iconst 1, 1) := by decide +kernel
theorem dX5_followFrom_82 : decode cX5_followFrom 82 = .ok (.aload_n 0, 1) := by decide +kernel
theorem dX5_followFrom_83 : decode cX5_followFrom 83 = .ok (.getfield 32, 3) := by decide +kernel
theorem dX5_followFrom_86 : decode cX5_followFrom 86 = .ok (.getfield 41, 3) := by decide +kernel
theorem dX5_followFrom_89 : decode cX5_followFrom 89 = .ok (.iload 4, 2) := by decide +kernel
theorem dX5_followFrom_91 : decode cX5_followFrom 91 = .ok (.iaload, 1) := by decide +kernel
theorem dX5_followFrom_92 : decode cX5_followFrom 92 = .ok (.ishl, 1) := by decide +kernel
theorem dX5_followFrom_93 : decode cX5_followFrom 93 = .ok (.ior, 1) := by decide +kernel
theorem dX5_followFrom_94 : decode cX5_followFrom 94 = .ok (.iastore, 1) := by decide +kernel
theorem dX5_followFrom_95 : decode cX5_followFrom 95 = .ok (.iinc 4 1, 3) := by decide +kernel
theorem dX5_followFrom_98 : decode cX5_followFrom 98 = .ok (.goto (-95), 3) := by decide +kernel
theorem dX5_followFrom_101 : decode cX5_followFrom 101 = .ok (.return_, 1) := by decide +kernel
theorem dX5_findWay_0 : decode cX5_findWay 0 = .ok (.aload_n 0, 1) := by decide +kernel
theorem dX5_findWay_1 : decode cX5_findWay 1 = .ok (.invokevirtual 46, 3) := by decide +kernel
theorem dX5_findWay_4 : decode cX5_findWay 4 = .ok (.aload_n 0, 1) := by decide +kernel
theorem dX5_findWay_5 : decode cX5_findWay 5 = .ok (.getfield 18, 3) := by decide +kernel
theorem dX5_findWay_8 : decode cX5_findWay 8 = .ok (.iconst 0, 1) := by decide +kernel
theorem dX5_findWay_9 : decode cX5_findWay 9 = .ok (.iload_n 1, 1) := by decide +kernel
theorem dX5_findWay_10 : decode cX5_findWay 10 = .ok (.iastore, 1) := by decide +kernel
theorem dX5_findWay_11 : decode cX5_findWay 11 = .ok (.aload_n 0, 1) := by decide +kernel
theorem dX5_findWay_12 : decode cX5_findWay 12 = .ok (.getfield 32, 3) := by decide +kernel
theorem dX5_findWay_15 : decode cX5_findWay 15 = .ok (.invokevirtual 63, 3) := by decide +kernel
theorem dX5_findWay_18 : decode cX5_findWay 18 = .ok (.istore_n 2, 1) := by decide +kernel
theorem dX5_findWay_19 : decode cX5_findWay 19 = .ok (.iconst 0, 1) := by decide +kernel
theorem dX5_findWay_20 : decode cX5_findWay 20 = .ok (.istore_n 3, 1) := by decide +kernel
theorem dX5_findWay_21 : decode cX5_findWay 21 = .ok (.iload_n 3, 1) := by decide +kernel
theorem dX5_findWay_22 : decode cX5_findWay 22 = .ok (.iload_n 2, 1) := by decide +kernel
theorem dX5_findWay_23 : decode cX5_findWay 23 = .ok (.if_icmp .gt 33, 3) := by decide +kernel
theorem dX5_findWay_26 : decode cX5_findWay 26 = .ok (.aload_n 0, 1) := by decide +kernel
theorem dX5_findWay_27 : decode cX5_findWay 27 = .ok (.getfield 15, 3) := by decide +kernel
theorem dX5_findWay_30 : decode cX5_findWay 30 = .ok (.iconst 0, 1) := by decide +kernel
theorem dX5_findWay_31 : decode cX5_findWay 31 = .ok (.invokestatic 49, 3) := by decide +kernel
theorem dX5_findWay_34 : decode cX5_findWay 34 = .ok (.aload_n 0, 1) := by decide +kernel
theorem dX5_findWay_35 : decode cX5_findWay 35 = .ok (.iconst 0, 1) := by decide +kernel
theorem dX5_findWay_36 : decode cX5_findWay 36 = .ok (.iconst 0, 1) := by decide +kernel
theorem dX5_findWay_37 : decode cX5_findWay 37 = .ok (.iload_n 3, 1) := by decide +kernel
theorem dX5_findWay_38 : decode cX5_findWay 38 = .ok (.invokevirtual 67, 3) := by decide +kernel
theorem dX5_findWay_41 : decode cX5_findWay 41 = .ok (.ifCond .eq 9, 3) := by decide +kernel
theorem dX5_findWay_44 : decode cX5_findWay 44 = .ok (.iconst 2, 1) := by decide +kernel
theorem dX5_findWay_45 : decode cX5_findWay 45 = .ok (.iload_n 3, 1) := by decide +kernel
theorem dX5_findWay_46 : decode cX5_findWay 46 = .ok (.imul, 1) := by decide +kernel
theorem dX5_findWay_47 : decode cX5_findWay 47 = .ok (.iconst 1, 1) := by decide +kernel
theorem dX5_findWay_48 : decode cX5_findWay 48 = .ok (.iadd, 1) := by decide +kernel
theorem dX5_findWay_49 : decode cX5_findWay 49 = .ok (.ireturn, 1) := by decide +kernel
theorem dX5_findWay_50 : decode cX5_findWay 50 = .ok (.iinc 3 1, 3) := by decide +kernel
theorem dX5_findWay_53 : decode cX5_findWay 53 = .ok (.goto (-32), 3) := by decide +kernel
theorem dX5_findWay_56 : decode cX5_findWay 56 = .ok (.iconst 0, 1) := by decide +kernel
theorem dX5_findWay_57 : decode cX5_findWay 57 = .ok (.ireturn, 1) := by decide +kernel
theorem dX5_followWay_0 : decode cX5_followWay 0 = .ok (.aload_n 0, 1) := by decide +kernel
theorem dX5_followWay_1 : decode cX5_followWay 1 = .ok (.getfield 18, 3) := by decide +kernel
theorem dX5_followWay_4 : decode cX5_followWay 4 = .ok (.iload_n 1, 1) := by decide +kernel
theorem dX5_followWay_5 : decode cX5_followWay 5 = .ok (.iaload, 1) := by decide +kernel
theorem dX5_followWay_6 : decode cX5_followWay 6 = .ok (.istore 4, 2) := by decide +kernel
theorem dX5_followWay_8 : decode cX5_followWay 8 = .ok (.aload_n 0, 1) := by decide +kernel
theorem dX5_followWay_9 : decode cX5_followWay 9 = .ok (.getfield 15, 3) := by decide +kernel
theorem dX5_followWay_12 : decode cX5_followWay 12 = .ok (.iload_n 2, 1) := by decide +kernel
theorem dX5_followWay_13 : decode cX5_followWay 13 = .ok (.iaload, 1) := by decide +kernel
theorem dX5_followWay_14 : decode cX5_followWay 14 = .ok (.iload 4, 2) := by decide +kernel
theorem dX5_followWay_16 : decode cX5_followWay 16 = .ok (.ishr, 1) := by decide +kernel
theorem dX5_followWay_17 : decode cX5_followWay 17 = .ok (.iconst 1, 1) := by decide +kernel
theorem dX5_followWay_18 : decode cX5_followWay 18 = .ok (.iand, 1) := by decide +kernel
theorem dX5_followWay_19 : decode cX5_followWay 19 = .ok (.ifCond .eq 5, 3) := by decide +kernel
theorem dX5_followWay_22 : decode cX5_followWay 22 = .ok (.iconst 0, 1) := by decide +kernel
theorem dX5_followWay_23 : decode cX5_followWay 23 = .ok (.ireturn, 1) := by decide +kernel
theorem dX5_followWay_24 : decode cX5_followWay 24 = .ok (.aload_n 0, 1) := by decide +kernel
theorem dX5_followWay_25 : decode cX5_followWay 25 = .ok (.getfield 15, 3) := by decide +kernel
theorem dX5_followWay_28 : decode cX5_followWay 28 = .ok (.iload_n 2, 1) := by decide +kernel
theorem dX5_followWay_29 : decode cX5_followWay 29 = .ok (.dup2, 1) := by decide +kernel
theorem dX5_followWay_30 : decode cX5_followWay 30 = .ok (.iaload, 1) := by decide +kernel
theorem dX5_followWay_31 : decode cX5_followWay 31 = .ok (.iconst 1, 1) := by decide +kernel
theorem dX5_followWay_32 : decode cX5_followWay 32 = .ok (.iload 4, 2) := by decide +kernel
theorem dX5_followWay_34 : decode cX5_followWay 34 = .ok (.ishl, 1) := by decide +kernel
theorem dX5_followWay_35 : decode cX5_followWay 35 = .ok (.ior, 1) := by decide +kernel
theorem dX5_followWay_36 : decode cX5_followWay 36 = .ok (.iastore, 1) := by decide +kernel
theorem dX5_followWay_37 : decode cX5_followWay 37 = .ok (.iconst 0, 1) := by decide +kernel
theorem dX5_followWay_38 : decode cX5_followWay 38 = .ok (.istore 5, 2) := by decide +kernel
theorem dX5_followWay_40 : decode cX5_followWay 40 = .ok (.iload 5, 2) := by decide +kernel
theorem dX5_followWay_42 : decode cX5_followWay 42 = .ok (.aload_n 0, 1) := by decide +kernel
theorem dX5_followWay_43 : decode cX5_followWay 43 = .ok (.getfield 28, 3) := by decide +kernel
theorem dX5_followWay_46 : decode cX5_followWay 46 = .ok (.getfield 36, 3) := by decide +kernel
theorem dX5_followWay_49 : decode cX5_followWay 49 = .ok (.if_icmp .ge 37, 3) := by decide +kernel
theorem dX5_followWay_52 : decode cX5_followWay 52 = .ok (.aload_n 0, 1) := by decide +kernel
theorem dX5_followWay_53 : decode cX5_followWay 53 = .ok (.getfield 28, 3) := by decide +kernel
theorem dX5_followWay_56 : decode cX5_followWay 56 = .ok (.iload 4, 2) := by decide +kernel
theorem dX5_followWay_58 : decode cX5_followWay 58 = .ok (.iload 5, 2) := by decide +kernel
theorem dX5_followWay_60 : decode cX5_followWay 60 = .ok (.invokevirtual 59, 3) := by decide +kernel
theorem dX5_followWay_63 : decode cX5_followWay 63 = .ok (.ifCond .eq 17, 3) := by decide +kernel
theorem dX5_followWay_66 : decode cX5_followWay 66 = .ok (.aload_n 0, 1) := by decide +kernel
theorem dX5_followWay_67 : decode cX5_followWay 67 = .ok (.iload 5, 2) := by decide +kernel
theorem dX5_followWay_69 : decode cX5_followWay 69 = .ok (.iload_n 1, 1) := by decide +kernel
theorem dX5_followWay_70 : decode cX5_followWay 70 = .ok (.iload_n 2, 1) := by decide +kernel
theorem dX5_followWay_71 : decode cX5_followWay 71 = .ok (.iload_n 3, 1) := by decide +kernel
theorem dX5_followWay_72 : decode cX5_followWay 72 = .ok (.invokevirtual 71, 3) := by decide +kernel
theorem dX5_followWay_75 : decode cX5_followWay 75 = .ok (.ifCond .eq 5, 3) := by decide +kernel
theorem dX5_followWay_78 : decode cX5_followWay 78 = .ok (.iconst 1, 1) := by decide +kernel
theorem dX5_followWay_79 : decode cX5_followWay 79 = .ok (.ireturn, 1) := by decide +kernel
theorem dX5_followWay_80 : decode cX5_followWay 80 = .ok (.iinc 5 1, 3) := by decide +kernel
theorem dX5_followWay_83 : decode cX5_followWay 83 = .ok (.goto (-43), 3) := by decide +kernel
theorem dX5_followWay_86 : decode cX5_followWay 86 = .ok (.iconst 0, 1) := by decide +kernel
theorem dX5_followWay_87 : decode cX5_followWay 87 = .ok (.ireturn, 1) := by decide +kernel
theorem dX5_followWayTo_0 : decode cX5_followWayTo 0 = .ok (.aload_n 0, 1) := by decide +kernel
theorem dX5_followWayTo_1 : decode cX5_followWayTo 1 = .ok (.getfield 9, 3) := by decide +kernel
theorem dX5_followWayTo_4 : decode cX5_followWayTo 4 = .ok (.iload_n 1, 1) := by decide +kernel
theorem dX5_followWayTo_5 : decode cX5_followWayTo 5 = .ok (.iaload, 1) := by decide +kernel
theorem dX5_followWayTo_6 : decode cX5_followWayTo 6 = .ok (.istore 5, 2) := by decide +kernel
theorem dX5_followWayTo_8 : decode cX5_followWayTo 8 = .ok (.iload 4, 2) := by decide +kernel
theorem dX5_followWayTo_10 : decode cX5_followWayTo 10 = .ok (.ifCond .ne 33, 3) := by decide +kernel
theorem dX5_followWayTo_13 : decode cX5_followWayTo 13 = .ok (.aload_n 0, 1) := by decide +kernel
theorem dX5_followWayTo_14 : decode cX5_followWayTo 14 = .ok (.getfield 18, 3) := by decide +kernel
theorem dX5_followWayTo_17 : decode cX5_followWayTo 17 = .ok (.iload_n 2, 1) := by decide +kernel
theorem dX5_followWayTo_18 : decode cX5_followWayTo 18 = .ok (.iconst 1, 1) := by decide +kernel
theorem dX5_followWayTo_19 : decode cX5_followWayTo 19 = .ok (.iadd, 1) := by decide +kernel
theorem dX5_followWayTo_20 : decode cX5_followWayTo 20 = .ok (.iload_n 1, 1) := by decide +kernel
theorem dX5_followWayTo_21 : decode cX5_followWayTo 21 = .ok (.iastore, 1) := by decide +kernel
theorem dX5_followWayTo_22 : decode cX5_followWayTo 22 = .ok (.iload 5, 2) := by decide +kernel
theorem dX5_followWayTo_24 : decode cX5_followWayTo 24 = .ok (.ifCond .ne 17, 3) := by decide +kernel
theorem dX5_followWayTo_27 : decode cX5_followWayTo 27 = .ok (.iload_n 1, 1) := by decide +kernel
theorem dX5_followWayTo_28 : decode cX5_followWayTo 28 = .ok (.aload_n 0, 1) := by decide +kernel
theorem dX5_followWayTo_29 : decode cX5_followWayTo 29 = .ok (.getfield 18, 3) := by decide +kernel
theorem dX5_followWayTo_32 : decode cX5_followWayTo 32 = .ok (.iconst 0, 1) := by decide +kernel
theorem dX5_followWayTo_33 : decode cX5_followWayTo 33 = .ok (.iaload, 1) := by decide +kernel
theorem dX5_followWayTo_34 : decode cX5_followWayTo 34 = .ok (.if_icmp .eq 7, 3) := by decide +kernel
theorem dX5_followWayTo_37 : decode cX5_followWayTo 37 = .ok (.iconst 1, 1) := by decide +kernel
theorem dX5_followWayTo_38 : decode cX5_followWayTo 38 = .ok (.goto 4, 3) := by decide +kernel
theorem dX5_followWayTo_41 : decode cX5_followWayTo 41 = .ok (.iconst 0, 1) := by decide +kernel
theorem dX5_followWayTo_42 : decode cX5_followWayTo 42 = .ok (.ireturn, 1) := by decide +kernel
theorem dX5_followWayTo_43 : decode cX5_followWayTo 43 = .ok (.iload 5, 2) := by decide +kernel
theorem dX5_followWayTo_45 : decode cX5_followWayTo 45 = .ok (.ifCond .eq 10, 3) := by decide +kernel
theorem dX5_followWayTo_48 : decode cX5_followWayTo 48 = .ok (.iload 5, 2) := by decide +kernel
theorem dX5_followWayTo_50 : decode cX5_followWayTo 50 = .ok (.iload_n 3, 1) := by decide +kernel
theorem dX5_followWayTo_51 : decode cX5_followWayTo 51 = .ok (.iand, 1) := by decide +kernel
theorem dX5_followWayTo_52 : decode cX5_followWayTo 52 = .ok (.ifCond .eq 5, 3) := by decide +kernel
theorem dX5_followWayTo_55 : decode cX5_followWayTo 55 = .ok (.iconst 0, 1) := by decide +kernel
theorem dX5_followWayTo_56 : decode cX5_followWayTo 56 = .ok (.ireturn, 1) := by decide +kernel
theorem dX5_followWayTo_57 : decode cX5_followWayTo 57 = .ok (.aload_n 0, 1) := by decide +kernel
theorem dX5_followWayTo_58 : decode cX5_followWayTo 58 = .ok (.getfield 18, 3) := by decide +kernel
theorem dX5_followWayTo_61 : decode cX5_followWayTo 61 = .ok (.iload_n 2, 1) := by decide +kernel
theorem dX5_followWayTo_62 : decode cX5_followWayTo 62 = .ok (.iconst 1, 1) := by decide +kernel
theorem dX5_followWayTo_63 : decode cX5_followWayTo 63 = .ok (.iadd, 1) := by decide +kernel
theorem dX5_followWayTo_64 : decode cX5_followWayTo 64 = .ok (.iload_n 1, 1) := by decide +kernel
theorem dX5_followWayTo_65 : decode cX5_followWayTo 65 = .ok (.iastore, 1) := by decide +kernel
theorem dX5_followWayTo_66 : decode cX5_followWayTo 66 = .ok (.aload_n 0, 1) := by decide +kernel
theorem dX5_followWayTo_67 : decode cX5_followWayTo 67 = .ok (.getfield 18, 3) := by decide +kernel
theorem dX5_followWayTo_70 : decode cX5_followWayTo 70 = .ok (.iload_n 2, 1) := by decide +kernel
theorem dX5_followWayTo_71 : decode cX5_followWayTo 71 = .ok (.iconst 2, 1) := by decide +kernel
theorem dX5_followWayTo_72 : decode cX5_followWayTo 72 = .ok (.iadd, 1) := by decide +kernel
theorem dX5_followWayTo_73 : decode cX5_followWayTo 73 = .ok (.aload_n 0, 1) := by decide +kernel
theorem dX5_followWayTo_74 : decode cX5_followWayTo 74 = .ok (.getfield 32, 3) := by decide +kernel
theorem dX5_followWayTo_77 : decode cX5_followWayTo 77 = .ok (.getfield 41, 3) := by decide +kernel
theorem dX5_followWayTo_80 : decode cX5_followWayTo 80 = .ok (.iload_n 1, 1) := by decide +kernel
theorem dX5_followWayTo_81 : decode cX5_followWayTo 81 = .ok (.iaload, 1) := by decide +kernel
theorem dX5_followWayTo_82 : decode cX5_followWayTo 82 = .ok (.iastore, 1) := by decide +kernel
theorem dX5_followWayTo_83 : decode cX5_followWayTo 83 = .ok (.aload_n 0, 1) := by decide +kernel
theorem dX5_followWayTo_84 : decode cX5_followWayTo 84 = .ok (.iload_n 2, 1) := by decide +kernel
theorem dX5_followWayTo_85 : decode cX5_followWayTo 85 = .ok (.iconst 2, 1) := by decide +kernel
theorem dX5_followWayTo_86 : decode cX5_followWayTo 86 = .ok (.iadd, 1) := by decide +kernel
theorem dX5_followWayTo_87 : decode cX5_followWayTo 87 = .ok (.iload_n 3, 1) := by decide +kernel
theorem dX5_followWayTo_88 : decode cX5_followWayTo 88 = .ok (.iload 5, 2) := by decide +kernel
theorem dX5_followWayTo_90 : decode cX5_followWayTo 90 = .ok (.ior, 1) := by decide +kernel
theorem dX5_followWayTo_91 : decode cX5_followWayTo 91 = .ok (.iload 4, 2) := by decide +kernel
theorem dX5_followWayTo_93 : decode cX5_followWayTo 93 = .ok (.iconst 1, 1) := by decide +kernel
theorem dX5_followWayTo_94 : decode cX5_followWayTo 94 = .ok (.isub, 1) := by decide +kernel
theorem dX5_followWayTo_95 : decode cX5_followWayTo 95 = .ok (.invokevirtual 67, 3) := by decide +kernel
theorem dX5_followWayTo_98 : decode cX5_followWayTo 98 = .ok (.ireturn, 1) := by decide +kernel
theorem dJ6_numberOfTrailingZeros_0f7a4_0 : decode cJ6_numberOfTrailingZeros_0f7a4 0 = .ok (.iload_n 0, 1) := by decide +kernel
theorem dJ6_numberOfTrailingZeros_0f7a4_1 : decode cJ6_numberOfTrailingZeros_0f7a4 1 = .ok (.iconst (-1), 1) := by decide +kernel
theorem dJ6_numberOfTrailingZeros_0f7a4_2 : decode cJ6_numberOfTrailingZeros_0f7a4 2 = .ok (.ixor, 1) := by decide +kernel
theorem dJ6_numberOfTrailingZeros_0f7a4_3 : decode cJ6_numberOfTrailingZeros_0f7a4 3 = .ok (.iload_n 0, 1) := by decide +kernel
theorem dJ6_numberOfTrailingZeros_0f7a4_4 : decode cJ6_numberOfTrailingZeros_0f7a4 4 = .ok (.iconst 1, 1) := by decide +kernel
theorem dJ6_numberOfTrailingZeros_0f7a4_5 : decode cJ6_numberOfTrailingZeros_0f7a4 5 = .ok (.isub, 1) := by decide +kernel
theorem dJ6_numberOfTrailingZeros_0f7a4_6 : decode cJ6_numberOfTrailingZeros_0f7a4 6 = .ok (.iand, 1) := by decide +kernel
theorem dJ6_numberOfTrailingZeros_0f7a4_7 : decode cJ6_numberOfTrailingZeros_0f7a4 7 = .ok (.istore_n 0, 1) := by decide +kernel
theorem dJ6_numberOfTrailingZeros_0f7a4_8 : decode cJ6_numberOfTrailingZeros_0f7a4 8 = .ok (.iload_n 0, 1) := by decide +kernel
theorem dJ6_numberOfTrailingZeros_0f7a4_9 : decode cJ6_numberOfTrailingZeros_0f7a4 9 = .ok (.ifCond .gt 8, 3) := by decide +kernel
theorem dJ6_numberOfTrailingZeros_0f7a4_12 : decode cJ6_numberOfTrailingZeros_0f7a4 12 = .ok (.iload_n 0, 1) := by decide +kernel
theorem dJ6_numberOfTrailingZeros_0f7a4_13 : decode cJ6_numberOfTrailingZeros_0f7a4 13 = .ok (.bipush 32, 2) := by decide +kernel
theorem dJ6_numberOfTrailingZeros_0f7a4_15 : decode cJ6_numberOfTrailingZeros_0f7a4 15 = .ok (.iand, 1) := by decide +kernel
theorem dJ6_numberOfTrailingZeros_0f7a4_16 : decode cJ6_numberOfTrailingZeros_0f7a4 16 = .ok (.ireturn, 1) := by decide +kernel
theorem dJ6_numberOfTrailingZeros_0f7a4_17 : decode cJ6_numberOfTrailingZeros_0f7a4 17 = .ok (.iconst 1, 1) := by decide +kernel
theorem dJ6_numberOfTrailingZeros_0f7a4_18 : decode cJ6_numberOfTrailingZeros_0f7a4 18 = .ok (.istore_n 1, 1) := by decide +kernel
theorem dJ6_numberOfTrailingZeros_0f7a4_19 : decode cJ6_numberOfTrailingZeros_0f7a4 19 = .ok (.iload_n 0, 1) := by decide +kernel
theorem dJ6_numberOfTrailingZeros_0f7a4_20 : decode cJ6_numberOfTrailingZeros_0f7a4 20 = .ok (.ldc_w 264, 3) := by decide +kernel
theorem dJ6_numberOfTrailingZeros_0f7a4_23 : decode cJ6_numberOfTrailingZeros_0f7a4 23 = .ok (.if_icmp .le 11, 3) := by decide +kernel
theorem dJ6_numberOfTrailingZeros_0f7a4_26 : decode cJ6_numberOfTrailingZeros_0f7a4 26 = .ok (.iinc 1 16, 3) := by decide +kernel
theorem dJ6_numberOfTrailingZeros_0f7a4_29 : decode cJ6_numberOfTrailingZeros_0f7a4 29 = .ok (.iload_n 0, 1) := by decide +kernel
theorem dJ6_numberOfTrailingZeros_0f7a4_30 : decode cJ6_numberOfTrailingZeros_0f7a4 30 = .ok (.bipush 16, 2) := by decide +kernel
theorem dJ6_numberOfTrailingZeros_0f7a4_32 : decode cJ6_numberOfTrailingZeros_0f7a4 32 = .ok (.iushr, 1) := by decide +kernel
theorem dJ6_numberOfTrailingZeros_0f7a4_33 : decode cJ6_numberOfTrailingZeros_0f7a4 33 = .ok (.istore_n 0, 1) := by decide +kernel
theorem dJ6_numberOfTrailingZeros_0f7a4_34 : decode cJ6_numberOfTrailingZeros_0f7a4 34 = .ok (.iload_n 0, 1) := by decide +kernel
theorem dJ6_numberOfTrailingZeros_0f7a4_35 : decode cJ6_numberOfTrailingZeros_0f7a4 35 = .ok (.sipush 256, 3) := by decide +kernel
theorem dJ6_numberOfTrailingZeros_0f7a4_38 : decode cJ6_numberOfTrailingZeros_0f7a4 38 = .ok (.if_icmp .le 11, 3) := by decide +kernel
theorem dJ6_numberOfTrailingZeros_0f7a4_41 : decode cJ6_numberOfTrailingZeros_0f7a4 41 = .ok (.iinc 1 8, 3) := by decide +kernel
theorem dJ6_numberOfTrailingZeros_0f7a4_44 : decode cJ6_numberOfTrailingZeros_0f7a4 44 = .ok (.iload_n 0, 1) := by decide +kernel
theorem dJ6_numberOfTrailingZeros_0f7a4_45 : decode cJ6_numberOfTrailingZeros_0f7a4 45 = .ok (.bipush 8, 2) := by decide +kernel
theorem dJ6_numberOfTrailingZeros_0f7a4_47 : decode cJ6_numberOfTrailingZeros_0f7a4 47 = .ok (.iushr, 1) := by decide +kernel
theorem dJ6_numberOfTrailingZeros_0f7a4_48 : decode cJ6_numberOfTrailingZeros_0f7a4 48 = .ok (.istore_n 0, 1) := by decide +kernel
theorem dJ6_numberOfTrailingZeros_0f7a4_49 : decode cJ6_numberOfTrailingZeros_0f7a4 49 = .ok (.iload_n 0, 1) := by decide +kernel
theorem dJ6_numberOfTrailingZeros_0f7a4_50 : decode cJ6_numberOfTrailingZeros_0f7a4 50 = .ok (.bipush 16, 2) := by decide +kernel
theorem dJ6_numberOfTrailingZeros_0f7a4_52 : decode cJ6_numberOfTrailingZeros_0f7a4 52 = .ok (.if_icmp .le 10, 3) := by decide +kernel
theorem dJ6_numberOfTrailingZeros_0f7a4_55 : decode cJ6_numberOfTrailingZeros_0f7a4 55 = .ok (.iinc 1 4, 3) := by decide +kernel
theorem dJ6_numberOfTrailingZeros_0f7a4_58 : decode cJ6_numberOfTrailingZeros_0f7a4 58 = .ok (.iload_n 0, 1) := by decide +kernel
theorem dJ6_numberOfTrailingZeros_0f7a4_59 : decode cJ6_numberOfTrailingZeros_0f7a4 59 = .ok (.iconst 4, 1) := by decide +kernel
theorem dJ6_numberOfTrailingZeros_0f7a4_60 : decode cJ6_numberOfTrailingZeros_0f7a4 60 = .ok (.iushr, 1) := by decide +kernel
theorem dJ6_numberOfTrailingZeros_0f7a4_61 : decode cJ6_numberOfTrailingZeros_0f7a4 61 = .ok (.istore_n 0, 1) := by decide +kernel
theorem dJ6_numberOfTrailingZeros_0f7a4_62 : decode cJ6_numberOfTrailingZeros_0f7a4 62 = .ok (.iload_n 0, 1) := by decide +kernel
theorem dJ6_numberOfTrailingZeros_0f7a4_63 : decode cJ6_numberOfTrailingZeros_0f7a4 63 = .ok (.iconst 4, 1) := by decide +kernel
theorem dJ6_numberOfTrailingZeros_0f7a4_64 : decode cJ6_numberOfTrailingZeros_0f7a4 64 = .ok (.if_icmp .le 10, 3) := by decide +kernel
theorem dJ6_numberOfTrailingZeros_0f7a4_67 : decode cJ6_numberOfTrailingZeros_0f7a4 67 = .ok (.iinc 1 2, 3) := by decide +kernel
theorem dJ6_numberOfTrailingZeros_0f7a4_70 : decode cJ6_numberOfTrailingZeros_0f7a4 70 = .ok (.iload_n 0, 1) := by decide +kernel
theorem dJ6_numberOfTrailingZeros_0f7a4_71 : decode cJ6_numberOfTrailingZeros_0f7a4 71 = .ok (.iconst 2, 1) := by decide +kernel
theorem dJ6_numberOfTrailingZeros_0f7a4_72 : decode cJ6_numberOfTrailingZeros_0f7a4 72 = .ok (.iushr, 1) := by decide +kernel
theorem dJ6_numberOfTrailingZeros_0f7a4_73 : decode cJ6_numberOfTrailingZeros_0f7a4 73 = .ok (.istore_n 0, 1) := by decide +kernel
theorem dJ6_numberOfTrailingZeros_0f7a4_74 : decode cJ6_numberOfTrailingZeros_0f7a4 74 = .ok (.iload_n 1, 1) := by decide +kernel
theorem dJ6_numberOfTrailingZeros_0f7a4_75 : decode cJ6_numberOfTrailingZeros_0f7a4 75 = .ok (.iload_n 0, 1) := by decide +kernel
theorem dJ6_numberOfTrailingZeros_0f7a4_76 : decode cJ6_numberOfTrailingZeros_0f7a4 76 = .ok (.iconst 1, 1) := by decide +kernel
theorem dJ6_numberOfTrailingZeros_0f7a4_77 : decode cJ6_numberOfTrailingZeros_0f7a4 77 = .ok (.iushr, 1) := by decide +kernel
theorem dJ6_numberOfTrailingZeros_0f7a4_78 : decode cJ6_numberOfTrailingZeros_0f7a4 78 = .ok (.iadd, 1) := by decide +kernel
theorem dJ6_numberOfTrailingZeros_0f7a4_79 : decode cJ6_numberOfTrailingZeros_0f7a4 79 = .ok (.ireturn, 1) := by decide +kernel
theorem dJ6_bitCount_0f7a4_0 : decode cJ6_bitCount_0f7a4 0 = .ok (.iload_n 0, 1) := by decide +kernel
theorem dJ6_bitCount_0f7a4_1 : decode cJ6_bitCount_0f7a4 1 = .ok (.iload_n 0, 1) := by decide +kernel
theorem dJ6_bitCount_0f7a4_2 : decode cJ6_bitCount_0f7a4 2 = .ok (.iconst 1, 1) := by decide +kernel
theorem dJ6_bitCount_0f7a4_3 : decode cJ6_bitCount_0f7a4 3 = .ok (.iushr, 1) := by decide +kernel
theorem dJ6_bitCount_0f7a4_4 : decode cJ6_bitCount_0f7a4 4 = .ok (.ldc_w 265, 3) := by decide +kernel
theorem dJ6_bitCount_0f7a4_7 : decode cJ6_bitCount_0f7a4 7 = .ok (.iand, 1) := by decide +kernel
theorem dJ6_bitCount_0f7a4_8 : decode cJ6_bitCount_0f7a4 8 = .ok (.isub, 1) := by decide +kernel
theorem dJ6_bitCount_0f7a4_9 : decode cJ6_bitCount_0f7a4 9 = .ok (.istore_n 0, 1) := by decide +kernel
theorem dJ6_bitCount_0f7a4_10 : decode cJ6_bitCount_0f7a4 10 = .ok (.iload_n 0, 1) := by decide +kernel
theorem dJ6_bitCount_0f7a4_11 : decode cJ6_bitCount_0f7a4 11 = .ok (.ldc_w 266, 3) := by decide +kernel
theorem dJ6_bitCount_0f7a4_14 : decode cJ6_bitCount_0f7a4 14 = .ok (.iand, 1) := by decide +kernel
theorem dJ6_bitCount_0f7a4_15 : decode cJ6_bitCount_0f7a4 15 = .ok (.iload_n 0, 1) := by decide +kernel
theorem dJ6_bitCount_0f7a4_16 : decode cJ6_bitCount_0f7a4 16 = .ok (.iconst 2, 1) := by decide +kernel
theorem dJ6_bitCount_0f7a4_17 : decode cJ6_bitCount_0f7a4 17 = .ok (.iushr, 1) := by decide +kernel
theorem dJ6_bitCount_0f7a4_18 : decode cJ6_bitCount_0f7a4 18 = .ok (.ldc_w 266, 3) := by decide +kernel
theorem dJ6_bitCount_0f7a4_21 : decode cJ6_bitCount_0f7a4 21 = .ok (.iand, 1) := by decide +kernel
theorem dJ6_bitCount_0f7a4_22 : decode cJ6_bitCount_0f7a4 22 = .ok (.iadd, 1) := by decide +kernel
theorem dJ6_bitCount_0f7a4_23 : decode cJ6_bitCount_0f7a4 23 = .ok (.istore_n 0, 1) := by decide +kernel
theorem dJ6_bitCount_0f7a4_24 : decode cJ6_bitCount_0f7a4 24 = .ok (.iload_n 0, 1) := by decide +kernel
theorem dJ6_bitCount_0f7a4_25 : decode cJ6_bitCount_0f7a4 25 = .ok (.iload_n 0, 1) := by decide +kernel
theorem dJ6_bitCount_0f7a4_26 : decode cJ6_bitCount_0f7a4 26 = .ok (.iconst 4, 1) := by decide +kernel
theorem dJ6_bitCount_0f7a4_27 : decode cJ6_bitCount_0f7a4 27 = .ok (.iushr, 1) := by decide +kernel
theorem dJ6_bitCount_0f7a4_28 : decode cJ6_bitCount_0f7a4 28 = .ok (.iadd, 1) := by decide +kernel
theorem dJ6_bitCount_0f7a4_29 : decode cJ6_bitCount_0f7a4 29 = .ok (.ldc_w 267, 3) := by decide +kernel
theorem dJ6_bitCount_0f7a4_32 : decode cJ6_bitCount_0f7a4 32 = .ok (.iand, 1) := by decide +kernel
theorem dJ6_bitCount_0f7a4_33 : decode cJ6_bitCount_0f7a4 33 = .ok (.istore_n 0, 1) := by decide +kernel
theorem dJ6_bitCount_0f7a4_34 : decode cJ6_bitCount_0f7a4 34 = .ok (.iload_n 0, 1) := by decide +kernel
theorem dJ6_bitCount_0f7a4_35 : decode cJ6_bitCount_0f7a4 35 = .ok (.iload_n 0, 1) := by decide +kernel
theorem dJ6_bitCount_0f7a4_36 : decode cJ6_bitCount_0f7a4 36 = .ok (.bipush 8, 2) := by decide +kernel
theorem dJ6_bitCount_0f7a4_38 : decode cJ6_bitCount_0f7a4 38 = .ok (.iushr, 1) := by decide +kernel
theorem dJ6_bitCount_0f7a4_39 : decode cJ6_bitCount_0f7a4 39 = .ok (.iadd, 1) := by decide +kernel
theorem dJ6_bitCount_0f7a4_40 : decode cJ6_bitCount_0f7a4 40 = .ok (.istore_n 0, 1) := by decide +kernel
theorem dJ6_bitCount_0f7a4_41 : decode cJ6_bitCount_0f7a4 41 = .ok (.iload_n 0, 1) := by decide +kernel
theorem dJ6_bitCount_0f7a4_42 : decode cJ6_bitCount_0f7a4 42 = .ok (.iload_n 0, 1) := by decide +kernel
theorem dJ6_bitCount_0f7a4_43 : decode cJ6_bitCount_0f7a4 43 = .ok (.bipush 16, 2) := by decide +kernel
theorem dJ6_bitCount_0f7a4_45 : decode cJ6_bitCount_0f7a4 45 = .ok (.iushr, 1) := by decide +kernel
theorem dJ6_bitCount_0f7a4_46 : decode cJ6_bitCount_0f7a4 46 = .ok (.iadd, 1) := by decide +kernel
theorem dJ6_bitCount_0f7a4_47 : decode cJ6_bitCount_0f7a4 47 = .ok (.istore_n 0, 1) := by decide +kernel
theorem dJ6_bitCount_0f7a4_48 : decode cJ6_bitCount_0f7a4 48 = .ok (.iload_n 0, 1) := by decide +kernel
theorem dJ6_bitCount_0f7a4_49 : decode cJ6_bitCount_0f7a4 49 = .ok (.bipush 63, 2) := by decide +kernel
theorem dJ6_bitCount_0f7a4_51 : decode cJ6_bitCount_0f7a4 51 = .ok (.iand, 1) := by decide +kernel
theorem dJ6_bitCount_0f7a4_52 : decode cJ6_bitCount_0f7a4 52 = .ok (.ireturn, 1) := by decide +kernel
theorem dJ9_max_7cf53_0 : decode cJ9_max_7cf53 0 = .ok (.iload_n 0, 1) := by decide +kernel
theorem dJ9_max_7cf53_1 : decode cJ9_max_7cf53 1 = .ok (.iload_n 1, 1) := by decide +kernel
theorem dJ9_max_7cf53_2 : decode cJ9_max_7cf53 2 = .ok (.if_icmp .lt 7, 3) := by decide +kernel
theorem dJ9_max_7cf53_5 : decode cJ9_max_7cf53 5 = .ok (.iload_n 0, 1) := by decide +kernel
theorem dJ9_max_7cf53_6 : decode cJ9_max_7cf53 6 = .ok (.goto 4, 3) := by decide +kernel
theorem dJ9_max_7cf53_9 : decode cJ9_max_7cf53 9 = .ok (.iload_n 1, 1) := by decide +kernel
theorem dJ9_max_7cf53_10 : decode cJ9_max_7cf53 10 = .ok (.ireturn, 1) := by decide +kernel
theorem dJ9_min_7cf53_0 : decode cJ9_min_7cf53 0 = .ok (.iload_n 0, 1) := by decide +kernel
theorem dJ9_min_7cf53_1 : decode cJ9_min_7cf53 1 = .ok (.iload_n 1, 1) := by decide +kernel
theorem dJ9_min_7cf53_2 : decode cJ9_min_7cf53 2 = .ok (.if_icmp .gt 7, 3) := by decide +kernel
theorem dJ9_min_7cf53_5 : decode cJ9_min_7cf53 5 = .ok (.iload_n 0, 1) := by decide +kernel
theorem dJ9_min_7cf53_6 : decode cJ9_min_7cf53 6 = .ok (.goto 4, 3) := by decide +kernel
theorem dJ9_min_7cf53_9 : decode cJ9_min_7cf53 9 = .ok (.iload_n 1, 1) := by decide +kernel
theorem dJ9_min_7cf53_10 : decode cJ9_min_7cf53 10 = .ok (.ireturn, 1) := by decide +kernel
theorem dJ7_fill_53178_0 : decode cJ7_fill_53178 0 = .ok (.iconst 0, 1) := by decide +kernel
theorem dJ7_fill_53178_1 : decode cJ7_fill_53178 1 = .ok (.istore_n 2, 1) := by decide +kernel
theorem dJ7_fill_53178_2 : decode cJ7_fill_53178 2 = .ok (.aload_n 0, 1) := by decide +kernel
theorem dJ7_fill_53178_3 : decode cJ7_fill_53178 3 = .ok (.arraylength, 1) := by decide +kernel
theorem dJ7_fill_53178_4 : decode cJ7_fill_53178 4 = .ok (.istore_n 3, 1) := by decide +kernel
theorem dJ7_fill_53178_5 : decode cJ7_fill_53178 5 = .ok (.iload_n 2, 1) := by decide +kernel
theorem dJ7_fill_53178_6 : decode cJ7_fill_53178 6 = .ok (.iload_n 3, 1) := by decide +kernel
theorem dJ7_fill_53178_7 : decode cJ7_fill_53178 7 = .ok (.if_icmp .ge 13, 3) := by decide +kernel
theorem dJ7_fill_53178_10 : decode cJ7_fill_53178 10 = .ok (.aload_n 0, 1) := by decide +kernel
theorem dJ7_fill_53178_11 : decode cJ7_fill_53178 11 = .ok (.iload_n 2, 1) := by decide +kernel
theorem dJ7_fill_53178_12 : decode cJ7_fill_53178 12 = .ok (.iload_n 1, 1) := by decide +kernel
theorem dJ7_fill_53178_13 : decode cJ7_fill_53178 13 = .ok (.iastore, 1) := by decide +kernel
theorem dJ7_fill_53178_14 : decode cJ7_fill_53178 14 = .ok (.iinc 2 1, 3) := by decide +kernel
theorem dJ7_fill_53178_17 : decode cJ7_fill_53178 17 = .ok (.goto (-12), 3) := by decide +kernel
theorem dJ7_fill_53178_20 : decode cJ7_fill_53178 20 = .ok (.return_, 1) := by decide +kernel
end
section
/-- the world's numbers: ints by cell and place; the reference's hash; what lies in out -/
abbrev WD : Type := (Nat → Nat → Int32) × Int64 × Int64
/-- where things lie: the classes' numbers, the addresses, the array classes (int, long, int[]), the first address of the law's own -/
abbrev Gb : Type := va_G × (Nat → Nat) × ClassId × ClassId × ClassId × Nat
def adr (g : Gb) (k : Nat) : Nat := g.2.1 k
def fA (g : Gb) : Nat → Prop := fun q => g.2.2.2.2.2 ≤ q
def tyl (g : Gb) : List (ClassId × FieldType) := [(g.2.2.1, .int), (g.2.2.2.1, .long), (g.2.2.2.2.1, .array .int)]
def rws (g : Gb) (k : Nat) : Nat → Option Nat := fun j => if j < 4 then some (adr g (k + j)) else none
def cells (g : Gb) (σ : WD) : va_W := [
  (adr g 0, .inr (6, [.ref (adr g 1), .ref (adr g 3), .ref (adr g 5), .ref (adr g 7), .ref (adr g 18), .ref (adr g 22), .ref (adr g 27)])),
  (adr g 1, .inr (0, [.int (σ.1 1 0), .ref (adr g 2), .int (σ.1 1 2)])),
  (adr g 2, .inl (g.2.2.1, 12, .inl (σ.1 2))),
  (adr g 3, .inr (3, [.ref (adr g 4)])),
  (adr g 4, .inl (g.2.2.1, 12, .inl (σ.1 4))),
  (adr g 5, .inr (2, [.ref (adr g 6), .int (σ.1 5 1)])),
  (adr g 6, .inl (g.2.2.1, 60, .inl (σ.1 6))),
  (adr g 7, .inr (1, [.ref (adr g 8), .ref (adr g 13), .int (σ.1 7 2), .int (σ.1 7 3)])),
  (adr g 8, .inl (g.2.2.2.2.1, 4, .inr (.inr (.inr (.inr (rws g 9)))))),
  (adr g 9, .inl (g.2.2.1, 12, .inl (σ.1 9))),
  (adr g 10, .inl (g.2.2.1, 12, .inl (σ.1 10))),
  (adr g 11, .inl (g.2.2.1, 12, .inl (σ.1 11))),
  (adr g 12, .inl (g.2.2.1, 12, .inl (σ.1 12))),
  (adr g 13, .inl (g.2.2.2.2.1, 4, .inr (.inr (.inr (.inr (rws g 14)))))),
  (adr g 14, .inl (g.2.2.1, 12, .inl (σ.1 14))),
  (adr g 15, .inl (g.2.2.1, 12, .inl (σ.1 15))),
  (adr g 16, .inl (g.2.2.1, 12, .inl (σ.1 16))),
  (adr g 17, .inl (g.2.2.1, 12, .inl (σ.1 17))),
  (adr g 18, .inr (5, [.ref (adr g 1), .ref (adr g 3), .ref (adr g 19), .ref (adr g 20), .ref (adr g 21), .int (σ.1 18 5), .int (σ.1 18 6)])),
  (adr g 19, .inl (g.2.2.1, 12, .inl (σ.1 19))),
  (adr g 20, .inl (g.2.2.1, 64, .inl (σ.1 20))),
  (adr g 21, .inl (g.2.2.1, 12, .inl (σ.1 21))),
  (adr g 22, .inr (4, [.ref (adr g 1), .ref (adr g 23), .ref (adr g 24), .ref (adr g 25), .int (σ.1 22 4), .int (σ.1 22 5)])),
  (adr g 23, .inl (g.2.2.1, 4096, .inl (σ.1 23))),
  (adr g 24, .inl (g.2.2.1, 4096, .inl (σ.1 24))),
  (adr g 25, .inr (3, [.ref (adr g 26)])),
  (adr g 26, .inl (g.2.2.1, 12, .inl (σ.1 26))),
  (adr g 27, .inr (0, [.int (σ.1 27 0), .ref (adr g 28), .int (σ.1 27 2)])),
  (adr g 28, .inl (g.2.2.1, 12, .inl (σ.1 28))),
  (adr g 29, .inr (7, [.int (σ.1 29 0), .int (σ.1 29 1), .ref (adr g 30), .ref (adr g 31), .int (σ.1 29 4), .ref (adr g 32), .int (σ.1 29 6), .ref (adr g 33), .ref (adr g 34), .ref (adr g 35), .ref (adr g 36), .ref (adr g 37), .ref (adr g 38), .int (σ.1 29 13), .int (σ.1 29 14), .int (σ.1 29 15), .int (σ.1 29 16), .ref (adr g 39), .long σ.2.1])),
  (adr g 30, .inl (g.2.2.1, 12, .inl (σ.1 30))),
  (adr g 31, .inl (g.2.2.1, 12, .inl (σ.1 31))),
  (adr g 32, .inl (g.2.2.1, 96, .inl (σ.1 32))),
  (adr g 33, .inl (g.2.2.1, 60, .inl (σ.1 33))),
  (adr g 34, .inl (g.2.2.1, 4096, .inl (σ.1 34))),
  (adr g 35, .inl (g.2.2.1, 4096, .inl (σ.1 35))),
  (adr g 36, .inl (g.2.2.1, 12, .inl (σ.1 36))),
  (adr g 37, .inl (g.2.2.1, 14, .inl (σ.1 37))),
  (adr g 38, .inl (g.2.2.1, 14, .inl (σ.1 38))),
  (adr g 39, .inl (g.2.2.1, 90, .inl (σ.1 39))),
  (adr g 40, .inl (g.2.2.2.1, 1, .inr (.inl (fun j => if j = 0 then σ.2.2 else 0))))]
def ups (σ : WD) (k : Nat) (f : Nat → Int32) : WD := (fun c => if c = k then f else σ.1 c, σ.2)
def upi (σ : WD) (k j : Nat) (v : Int32) : WD := ups σ k (upd (σ.1 k) j v)
def uph (σ : WD) (v : Int64) : WD := (σ.1, v, σ.2.2)
def upo (σ : WD) (v : Int64) : WD := (σ.1, σ.2.1, v)
abbrev Cx : Type := Program × Launch × Env × Room × State × MethodId × Array Value × List Frame × Method × Code × (State → Prop)
/-- the judgement: from pc with these locals, this stack and this world, whatever else the heap holds -/
def WW (x : Cx) (g : Gb) (nL ce sl pc : Nat) (lv : List (Nat × Value)) (st : List Value) (σ : WD) : Prop :=
  ∀ (H : Heap) (locs : List Loc) (ls : Array Slot), va_P g.1 vwCl (cells g σ) H → va_S (fA g) x.2.2.2.2.1.heap H locs → lv_has ls nL lv →
    W x.1 x.2.1 x.2.2.1 x.2.2.2.1 x.2.2.2.2.1 x.2.2.2.2.2.1 x.2.2.2.2.2.2.1 x.2.2.2.2.2.2.2.1 x.2.2.2.2.2.2.2.2.1 x.2.2.2.2.2.2.2.2.2.1 H locs ce sl x.2.2.2.2.2.2.2.2.2.2 (F0 x.2.2.2.2.2.1 pc ls st)
/-- what stands over the whole of a method's walk -/
def CF (x : Cx) (g : Gb) (own : String) (cc : ByteArray) (nL : Nat) (rm : Room) : Prop :=
  x.1.tables.exec = Jvm.exec ∧ x.2.2.2.2.2.2.2.2.2.1.code = cc ∧ x.2.2.2.2.2.2.2.2.2.1.maxLocals = nL ∧ x.2.2.2.2.1.vm.findClass own = some x.2.2.2.2.2.1.cls ∧ (∀ w ∈ WS, w.before x.2.2.2.2.2.2.1 x.2.2.2.2.1 = true) ∧
  va_K g.1 vwCl (tyl g) x.2.2.2.2.1 ∧ (∀ σ, va_D (fA g) (cells g σ)) ∧ NW x.2.2.2.2.1 ∧ g.2.2.2.2.2 ≤ x.2.2.2.2.1.heap.size ∧ x.2.2.2.1 = rm ∧ x.2.2.2.2.2.2.2.2.1.locks = false
section XB
variable {x : Cx} {g : Gb} {own : String} {cc : ByteArray} {nL : Nat} {rm : Room}
theorem CF.ex (C : CF x g own cc nL rm) : x.1.tables.exec = Jvm.exec := C.1
theorem CF.by (C : CF x g own cc nL rm) : x.2.2.2.2.2.2.2.2.2.1.code = cc := C.2.1
theorem CF.ml (C : CF x g own cc nL rm) : x.2.2.2.2.2.2.2.2.2.1.maxLocals = nL := C.2.2.1
theorem CF.ow (C : CF x g own cc nL rm) : x.2.2.2.2.1.vm.findClass own = some x.2.2.2.2.2.1.cls := C.2.2.2.1
theorem CF.ts (C : CF x g own cc nL rm) : ∀ w ∈ WS, w.before x.2.2.2.2.2.2.1 x.2.2.2.2.1 = true := C.2.2.2.2.1
theorem CF.K (C : CF x g own cc nL rm) : va_K g.1 vwCl (tyl g) x.2.2.2.2.1 := C.2.2.2.2.2.1
theorem CF.D (C : CF x g own cc nL rm) (σ : WD) : va_D (fA g) (cells g σ) := C.2.2.2.2.2.2.1 σ
theorem CF.nw (C : CF x g own cc nL rm) : NW x.2.2.2.2.1 := C.2.2.2.2.2.2.2.1
theorem CF.bs (C : CF x g own cc nL rm) : g.2.2.2.2.2 ≤ x.2.2.2.2.1.heap.size := C.2.2.2.2.2.2.2.2.1
theorem CF.ro (C : CF x g own cc nL rm) : x.2.2.2.1 = rm := C.2.2.2.2.2.2.2.2.2.1
theorem CF.lk (C : CF x g own cc nL rm) : x.2.2.2.2.2.2.2.2.1.locks = false := C.2.2.2.2.2.2.2.2.2.2
end XB
section XI
variable {x : Cx} {g : Gb} {own : String} {cc : ByteArray} {nL ce sl pc : Nat} {rm : Room} {lv : List (Nat × Value)} {st : List Value} {σ : WD}
theorem x_iconst (C : CF x g own cc nL rm) {n : Int} {v : Int32} (hdg : decode cc pc = .ok (.iconst n, 1)) (hv : Int32.ofInt n = v) (pn : Nat) (hp : pc + 1 = pn) (k : WW x g nL ce sl pn lv (.int v :: st) σ) : WW x g nL ce sl pc lv st σ := by
  subst hp
  exact fun H locs ls hP hS hl => lv_iconst C.ex C.by hdg hv (k H locs ls hP hS hl)
theorem x_bipush (C : CF x g own cc nL rm) {n : Int} {v : Int32} (hdg : decode cc pc = .ok (.bipush n, 2)) (hv : (Int8.ofInt n).toInt32 = v) (pn : Nat) (hp : pc + 2 = pn) (k : WW x g nL ce sl pn lv (.int v :: st) σ) : WW x g nL ce sl pc lv st σ := by
  subst hp
  exact fun H locs ls hP hS hl => lv_bipush C.ex C.by hdg hv (k H locs ls hP hS hl)
theorem x_sipush (C : CF x g own cc nL rm) {n : Int} {v : Int32} (hdg : decode cc pc = .ok (.sipush n, 3)) (hv : (Int16.ofInt n).toInt32 = v) (pn : Nat) (hp : pc + 3 = pn) (k : WW x g nL ce sl pn lv (.int v :: st) σ) : WW x g nL ce sl pc lv st σ := by
  subst hp
  exact fun H locs ls hP hS hl => lv_sipush C.ex C.by hdg hv (k H locs ls hP hS hl)
theorem x_ldcw (C : CF x g own cc nL rm) {n : Nat} {v : Int32} (hdg : decode cc pc = .ok (.ldc_w n, 3)) (hv : Cond.constant own n v ∈ WS) (pn : Nat) (hp : pc + 3 = pn) (k : WW x g nL ce sl pn lv (.int v :: st) σ) : WW x g nL ce sl pc lv st σ := by
  subst hp
  exact fun H locs ls hP hS hl => lv_ldcw C.ex C.by C.ow (C.ts _ hv) hdg (k H locs ls hP hS hl)
theorem x_ldc (C : CF x g own cc nL rm) {n : Nat} {v : Int32} (hdg : decode cc pc = .ok (.ldc n, 2)) (hv : Cond.constant own n v ∈ WS) (pn : Nat) (hp : pc + 2 = pn) (k : WW x g nL ce sl pn lv (.int v :: st) σ) : WW x g nL ce sl pc lv st σ := by
  subst hp
  exact fun H locs ls hP hS hl => lv_ldc C.ex C.by C.ow (C.ts _ hv) hdg (k H locs ls hP hS hl)
theorem x_ldc2 (C : CF x g own cc nL rm) {n : Nat} {v : Int64} (hdg : decode cc pc = .ok (.ldc2_w n, 3)) (hv : Cond.constantLong own n v ∈ WS) (pn : Nat) (hp : pc + 3 = pn) (k : WW x g nL ce sl pn lv (.long v :: st) σ) : WW x g nL ce sl pc lv st σ := by
  subst hp
  exact fun H locs ls hP hS hl => lv_ldc2 C.ex C.by C.ow (C.ts _ hv) hdg (k H locs ls hP hS hl)
theorem x_iload_n (C : CF x g own cc nL rm) {k : Fin 4} {i : Nat} {v : Int32} (hdg : decode cc pc = .ok (.iload_n k, 1)) (hi : (k : Nat) = i) (q : Nat) (hq : lv[q]? = some (i, .int v)) (pn : Nat) (hp : pc + 1 = pn) (k : WW x g nL ce sl pn lv (.int v :: st) σ) : WW x g nL ce sl pc lv st σ := by
  subst hp
  exact fun H locs ls hP hS hl => lv_iload_n C.ex C.by hdg hi (lv_at hl q hq) (k H locs ls hP hS hl)
theorem x_iload (C : CF x g own cc nL rm) {i : Nat} {v : Int32} (hdg : decode cc pc = .ok (.iload i, 2)) (q : Nat) (hq : lv[q]? = some (i, .int v)) (pn : Nat) (hp : pc + 2 = pn) (k : WW x g nL ce sl pn lv (.int v :: st) σ) : WW x g nL ce sl pc lv st σ := by
  subst hp
  exact fun H locs ls hP hS hl => lv_iload C.ex C.by hdg (lv_at hl q hq) (k H locs ls hP hS hl)
theorem x_istore_n (C : CF x g own cc nL rm) {k : Fin 4} {i : Nat} {v : Int32} (lw : List (Nat × Value)) (hdg : decode cc pc = .ok (.istore_n k, 1)) (hi : (k : Nat) = i) (hn : i < nL) (hl9 : (i, Value.int v) :: lv.filter (fun q => !(q.1 == i) && !(q.1 + 1 == i && q.2.category == 2)) = lw) (pn : Nat) (hp : pc + 1 = pn) (k : WW x g nL ce sl pn lw st σ) : WW x g nL ce sl pc lv (.int v :: st) σ := by
  subst hp
  exact fun H locs ls hP hS hl => lv_istore_n C.ex C.by hdg hi hl hn hl9 (fun ls hl => k H locs ls hP hS hl)
theorem x_istore (C : CF x g own cc nL rm) {i : Nat} {v : Int32} (lw : List (Nat × Value)) (hdg : decode cc pc = .ok (.istore i, 2)) (hn : i < nL) (hl9 : (i, Value.int v) :: lv.filter (fun q => !(q.1 == i) && !(q.1 + 1 == i && q.2.category == 2)) = lw) (pn : Nat) (hp : pc + 2 = pn) (k : WW x g nL ce sl pn lw st σ) : WW x g nL ce sl pc lv (.int v :: st) σ := by
  subst hp
  exact fun H locs ls hP hS hl => lv_istore C.ex C.by hdg hl hn hl9 (fun ls hl => k H locs ls hP hS hl)
theorem x_aload_n (C : CF x g own cc nL rm) {k : Fin 4} {i : Nat} {v : Nat} (hdg : decode cc pc = .ok (.aload_n k, 1)) (hi : (k : Nat) = i) (q : Nat) (hq : lv[q]? = some (i, .ref v)) (pn : Nat) (hp : pc + 1 = pn) (k : WW x g nL ce sl pn lv (.ref v :: st) σ) : WW x g nL ce sl pc lv st σ := by
  subst hp
  exact fun H locs ls hP hS hl => lv_aload_n C.ex C.by hdg hi (lv_at hl q hq) (k H locs ls hP hS hl)
theorem x_aload (C : CF x g own cc nL rm) {i : Nat} {v : Nat} (hdg : decode cc pc = .ok (.aload i, 2)) (q : Nat) (hq : lv[q]? = some (i, .ref v)) (pn : Nat) (hp : pc + 2 = pn) (k : WW x g nL ce sl pn lv (.ref v :: st) σ) : WW x g nL ce sl pc lv st σ := by
  subst hp
  exact fun H locs ls hP hS hl => lv_aload C.ex C.by hdg (lv_at hl q hq) (k H locs ls hP hS hl)
theorem x_astore_n (C : CF x g own cc nL rm) {k : Fin 4} {i : Nat} {v : Nat} (lw : List (Nat × Value)) (hdg : decode cc pc = .ok (.astore_n k, 1)) (hi : (k : Nat) = i) (hn : i < nL) (hl9 : (i, Value.ref v) :: lv.filter (fun q => !(q.1 == i) && !(q.1 + 1 == i && q.2.category == 2)) = lw) (pn : Nat) (hp : pc + 1 = pn) (k : WW x g nL ce sl pn lw st σ) : WW x g nL ce sl pc lv (.ref v :: st) σ := by
  subst hp
  exact fun H locs ls hP hS hl => lv_astore_n C.ex C.by hdg hi hl hn hl9 (fun ls hl => k H locs ls hP hS hl)
theorem x_astore (C : CF x g own cc nL rm) {i : Nat} {v : Nat} (lw : List (Nat × Value)) (hdg : decode cc pc = .ok (.astore i, 2)) (hn : i < nL) (hl9 : (i, Value.ref v) :: lv.filter (fun q => !(q.1 == i) && !(q.1 + 1 == i && q.2.category == 2)) = lw) (pn : Nat) (hp : pc + 2 = pn) (k : WW x g nL ce sl pn lw st σ) : WW x g nL ce sl pc lv (.ref v :: st) σ := by
  subst hp
  exact fun H locs ls hP hS hl => lv_astore C.ex C.by hdg hl hn hl9 (fun ls hl => k H locs ls hP hS hl)
theorem x_lload_n (C : CF x g own cc nL rm) {k : Fin 4} {i : Nat} {v : Int64} (hdg : decode cc pc = .ok (.lload_n k, 1)) (hi : (k : Nat) = i) (q : Nat) (hq : lv[q]? = some (i, .long v)) (pn : Nat) (hp : pc + 1 = pn) (k : WW x g nL ce sl pn lv (.long v :: st) σ) : WW x g nL ce sl pc lv st σ := by
  subst hp
  exact fun H locs ls hP hS hl => lv_lload_n C.ex C.by hdg hi (lv_at hl q hq) (k H locs ls hP hS hl)
theorem x_lload (C : CF x g own cc nL rm) {i : Nat} {v : Int64} (hdg : decode cc pc = .ok (.lload i, 2)) (q : Nat) (hq : lv[q]? = some (i, .long v)) (pn : Nat) (hp : pc + 2 = pn) (k : WW x g nL ce sl pn lv (.long v :: st) σ) : WW x g nL ce sl pc lv st σ := by
  subst hp
  exact fun H locs ls hP hS hl => lv_lload C.ex C.by hdg (lv_at hl q hq) (k H locs ls hP hS hl)
theorem x_lstore_n (C : CF x g own cc nL rm) {k : Fin 4} {i : Nat} {v : Int64} (lw : List (Nat × Value)) (hdg : decode cc pc = .ok (.lstore_n k, 1)) (hi : (k : Nat) = i) (hn : i + 1 < nL) (hl9 : (i, Value.long v) :: lv.filter (fun q => !(q.1 == i) && (!(q.1 == i + 1) && !(q.1 + 1 == i && q.2.category == 2))) = lw) (pn : Nat) (hp : pc + 1 = pn) (k : WW x g nL ce sl pn lw st σ) : WW x g nL ce sl pc lv (.long v :: st) σ := by
  subst hp
  exact fun H locs ls hP hS hl => lv_lstore_n C.ex C.by hdg hi hl hn hl9 (fun ls hl => k H locs ls hP hS hl)
theorem x_lstore (C : CF x g own cc nL rm) {i : Nat} {v : Int64} (lw : List (Nat × Value)) (hdg : decode cc pc = .ok (.lstore i, 2)) (hn : i + 1 < nL) (hl9 : (i, Value.long v) :: lv.filter (fun q => !(q.1 == i) && (!(q.1 == i + 1) && !(q.1 + 1 == i && q.2.category == 2))) = lw) (pn : Nat) (hp : pc + 2 = pn) (k : WW x g nL ce sl pn lw st σ) : WW x g nL ce sl pc lv (.long v :: st) σ := by
  subst hp
  exact fun H locs ls hP hS hl => lv_lstore C.ex C.by hdg hl hn hl9 (fun ls hl => k H locs ls hP hS hl)
theorem x_dload_n (C : CF x g own cc nL rm) {k : Fin 4} {i : Nat} {v : UInt64} (hdg : decode cc pc = .ok (.dload_n k, 1)) (hi : (k : Nat) = i) (q : Nat) (hq : lv[q]? = some (i, .double v)) (pn : Nat) (hp : pc + 1 = pn) (k : WW x g nL ce sl pn lv (.double v :: st) σ) : WW x g nL ce sl pc lv st σ := by
  subst hp
  exact fun H locs ls hP hS hl => lv_dload_n C.ex C.by hdg hi (lv_at hl q hq) (k H locs ls hP hS hl)
theorem x_dload (C : CF x g own cc nL rm) {i : Nat} {v : UInt64} (hdg : decode cc pc = .ok (.dload i, 2)) (q : Nat) (hq : lv[q]? = some (i, .double v)) (pn : Nat) (hp : pc + 2 = pn) (k : WW x g nL ce sl pn lv (.double v :: st) σ) : WW x g nL ce sl pc lv st σ := by
  subst hp
  exact fun H locs ls hP hS hl => lv_dload C.ex C.by hdg (lv_at hl q hq) (k H locs ls hP hS hl)
theorem x_dstore_n (C : CF x g own cc nL rm) {k : Fin 4} {i : Nat} {v : UInt64} (lw : List (Nat × Value)) (hdg : decode cc pc = .ok (.dstore_n k, 1)) (hi : (k : Nat) = i) (hn : i + 1 < nL) (hl9 : (i, Value.double v) :: lv.filter (fun q => !(q.1 == i) && (!(q.1 == i + 1) && !(q.1 + 1 == i && q.2.category == 2))) = lw) (pn : Nat) (hp : pc + 1 = pn) (k : WW x g nL ce sl pn lw st σ) : WW x g nL ce sl pc lv (.double v :: st) σ := by
  subst hp
  exact fun H locs ls hP hS hl => lv_dstore_n C.ex C.by hdg hi hl hn hl9 (fun ls hl => k H locs ls hP hS hl)
theorem x_dstore (C : CF x g own cc nL rm) {i : Nat} {v : UInt64} (lw : List (Nat × Value)) (hdg : decode cc pc = .ok (.dstore i, 2)) (hn : i + 1 < nL) (hl9 : (i, Value.double v) :: lv.filter (fun q => !(q.1 == i) && (!(q.1 == i + 1) && !(q.1 + 1 == i && q.2.category == 2))) = lw) (pn : Nat) (hp : pc + 2 = pn) (k : WW x g nL ce sl pn lw st σ) : WW x g nL ce sl pc lv (.double v :: st) σ := by
  subst hp
  exact fun H locs ls hP hS hl => lv_dstore C.ex C.by hdg hl hn hl9 (fun ls hl => k H locs ls hP hS hl)
theorem x_iinc (C : CF x g own cc nL rm) {i : Nat} {n : Int} {y v : Int32} (lw : List (Nat × Value)) (hdg : decode cc pc = .ok (.iinc i n, 3)) (q : Nat) (hq : lv[q]? = some (i, .int y)) (hv : y + Int32.ofInt n = v) (hn : i < nL) (hl9 : (i, Value.int v) :: lv.filter (fun q => !(q.1 == i) && !(q.1 + 1 == i && q.2.category == 2)) = lw) (pn : Nat) (hp : pc + 3 = pn) (k : WW x g nL ce sl pn lw st σ) : WW x g nL ce sl pc lv st σ := by
  subst hp
  exact fun H locs ls hP hS hl => lv_iinc C.ex C.by hdg hl hq hv hn hl9 (fun ls hl => k H locs ls hP hS hl)
theorem x_iadd (C : CF x g own cc nL rm) {a b : Int32} (hdg : decode cc pc = .ok (.iadd, 1)) (pn : Nat) (hp : pc + 1 = pn) (k : WW x g nL ce sl pn lv (.int (a + b) :: st) σ) : WW x g nL ce sl pc lv (.int b :: .int a :: st) σ := by
  subst hp
  exact fun H locs ls hP hS hl => lv_iadd C.ex C.by hdg (k H locs ls hP hS hl)
theorem x_isub (C : CF x g own cc nL rm) {a b : Int32} (hdg : decode cc pc = .ok (.isub, 1)) (pn : Nat) (hp : pc + 1 = pn) (k : WW x g nL ce sl pn lv (.int (a - b) :: st) σ) : WW x g nL ce sl pc lv (.int b :: .int a :: st) σ := by
  subst hp
  exact fun H locs ls hP hS hl => lv_isub C.ex C.by hdg (k H locs ls hP hS hl)
theorem x_imul (C : CF x g own cc nL rm) {a b : Int32} (hdg : decode cc pc = .ok (.imul, 1)) (pn : Nat) (hp : pc + 1 = pn) (k : WW x g nL ce sl pn lv (.int (a * b) :: st) σ) : WW x g nL ce sl pc lv (.int b :: .int a :: st) σ := by
  subst hp
  exact fun H locs ls hP hS hl => lv_imul C.ex C.by hdg (k H locs ls hP hS hl)
theorem x_iand (C : CF x g own cc nL rm) {a b : Int32} (hdg : decode cc pc = .ok (.iand, 1)) (pn : Nat) (hp : pc + 1 = pn) (k : WW x g nL ce sl pn lv (.int (a &&& b) :: st) σ) : WW x g nL ce sl pc lv (.int b :: .int a :: st) σ := by
  subst hp
  exact fun H locs ls hP hS hl => lv_iand C.ex C.by hdg (k H locs ls hP hS hl)
theorem x_ior (C : CF x g own cc nL rm) {a b : Int32} (hdg : decode cc pc = .ok (.ior, 1)) (pn : Nat) (hp : pc + 1 = pn) (k : WW x g nL ce sl pn lv (.int (a ||| b) :: st) σ) : WW x g nL ce sl pc lv (.int b :: .int a :: st) σ := by
  subst hp
  exact fun H locs ls hP hS hl => lv_ior C.ex C.by hdg (k H locs ls hP hS hl)
theorem x_ixor (C : CF x g own cc nL rm) {a b : Int32} (hdg : decode cc pc = .ok (.ixor, 1)) (pn : Nat) (hp : pc + 1 = pn) (k : WW x g nL ce sl pn lv (.int (a ^^^ b) :: st) σ) : WW x g nL ce sl pc lv (.int b :: .int a :: st) σ := by
  subst hp
  exact fun H locs ls hP hS hl => lv_ixor C.ex C.by hdg (k H locs ls hP hS hl)
theorem x_ishl (C : CF x g own cc nL rm) {a b : Int32} (hdg : decode cc pc = .ok (.ishl, 1)) (pn : Nat) (hp : pc + 1 = pn) (k : WW x g nL ce sl pn lv (.int (a <<< (b &&& 31)) :: st) σ) : WW x g nL ce sl pc lv (.int b :: .int a :: st) σ := by
  subst hp
  exact fun H locs ls hP hS hl => lv_ishl C.ex C.by hdg (k H locs ls hP hS hl)
theorem x_ishr (C : CF x g own cc nL rm) {a b : Int32} (hdg : decode cc pc = .ok (.ishr, 1)) (pn : Nat) (hp : pc + 1 = pn) (k : WW x g nL ce sl pn lv (.int (a >>> (b &&& 31)) :: st) σ) : WW x g nL ce sl pc lv (.int b :: .int a :: st) σ := by
  subst hp
  exact fun H locs ls hP hS hl => lv_ishr C.ex C.by hdg (k H locs ls hP hS hl)
theorem x_iushr (C : CF x g own cc nL rm) {a b : Int32} (hdg : decode cc pc = .ok (.iushr, 1)) (pn : Nat) (hp : pc + 1 = pn) (k : WW x g nL ce sl pn lv (.int (a.toUInt32 >>> (b.toUInt32 &&& Int32.toUInt32 31)).toInt32 :: st) σ) : WW x g nL ce sl pc lv (.int b :: .int a :: st) σ := by
  subst hp
  exact fun H locs ls hP hS hl => lv_iushr C.ex C.by hdg rfl (k H locs ls hP hS hl)
theorem x_idiv (C : CF x g own cc nL rm) {a b : Int32} (hdg : decode cc pc = .ok (.idiv, 1)) (hne : ¬ b = 0) (pn : Nat) (hp : pc + 1 = pn) (k : WW x g nL ce sl pn lv (.int (a / b) :: st) σ) : WW x g nL ce sl pc lv (.int b :: .int a :: st) σ := by
  subst hp
  exact fun H locs ls hP hS hl => lv_idiv C.ex C.by hdg hne (k H locs ls hP hS hl)
theorem x_irem (C : CF x g own cc nL rm) {a b : Int32} (hdg : decode cc pc = .ok (.irem, 1)) (hne : ¬ b = 0) (pn : Nat) (hp : pc + 1 = pn) (k : WW x g nL ce sl pn lv (.int (a - a / b * b) :: st) σ) : WW x g nL ce sl pc lv (.int b :: .int a :: st) σ := by
  subst hp
  exact fun H locs ls hP hS hl => lv_irem C.ex C.by hdg hne (k H locs ls hP hS hl)
theorem x_i2l (C : CF x g own cc nL rm) {a : Int32} (hdg : decode cc pc = .ok (.i2l, 1)) (pn : Nat) (hp : pc + 1 = pn) (k : WW x g nL ce sl pn lv (.long a.toInt64 :: st) σ) : WW x g nL ce sl pc lv (.int a :: st) σ := by
  subst hp
  exact fun H locs ls hP hS hl => lv_i2l C.ex C.by hdg rfl (k H locs ls hP hS hl)
theorem x_i2d (C : CF x g own cc nL rm) {a : Int32} (hdg : decode cc pc = .ok (.i2d, 1)) (pn : Nat) (hp : pc + 1 = pn) (k : WW x g nL ce sl pn lv (.double (FP.i2d a) :: st) σ) : WW x g nL ce sl pc lv (.int a :: st) σ := by
  subst hp
  exact fun H locs ls hP hS hl => lv_i2d C.ex C.by hdg (k H locs ls hP hS hl)
theorem x_ladd (C : CF x g own cc nL rm) {a b : Int64} (hdg : decode cc pc = .ok (.ladd, 1)) (pn : Nat) (hp : pc + 1 = pn) (k : WW x g nL ce sl pn lv (.long (a + b) :: st) σ) : WW x g nL ce sl pc lv (.long b :: .long a :: st) σ := by
  subst hp
  exact fun H locs ls hP hS hl => lv_ladd C.ex C.by hdg (k H locs ls hP hS hl)
theorem x_lmul (C : CF x g own cc nL rm) {a b : Int64} (hdg : decode cc pc = .ok (.lmul, 1)) (pn : Nat) (hp : pc + 1 = pn) (k : WW x g nL ce sl pn lv (.long (a * b) :: st) σ) : WW x g nL ce sl pc lv (.long b :: .long a :: st) σ := by
  subst hp
  exact fun H locs ls hP hS hl => lv_lmul C.ex C.by hdg (k H locs ls hP hS hl)
theorem x_lcmp (C : CF x g own cc nL rm) {a b : Int64} (hdg : decode cc pc = .ok (.lcmp, 1)) (pn : Nat) (hp : pc + 1 = pn) (k : WW x g nL ce sl pn lv (.int (lg_cmp a b) :: st) σ) : WW x g nL ce sl pc lv (.long b :: .long a :: st) σ := by
  subst hp
  exact fun H locs ls hP hS hl => W.lcmp C.ex C.by hdg (k H locs ls hP hS hl)
theorem x_dup (C : CF x g own cc nL rm) {a : Value} (hdg : decode cc pc = .ok (.dup, 1)) (ha : a.category = 1) (pn : Nat) (hp : pc + 1 = pn) (k : WW x g nL ce sl pn lv (a :: a :: st) σ) : WW x g nL ce sl pc lv (a :: st) σ := by
  subst hp
  exact fun H locs ls hP hS hl => lv_dup C.ex C.by hdg ha (k H locs ls hP hS hl)
theorem x_dup2 (C : CF x g own cc nL rm) {a b : Value} (hdg : decode cc pc = .ok (.dup2, 1)) (ha : a.category = 1) (hb : b.category = 1) (pn : Nat) (hp : pc + 1 = pn) (k : WW x g nL ce sl pn lv (a :: b :: a :: b :: st) σ) : WW x g nL ce sl pc lv (a :: b :: st) σ := by
  subst hp
  exact fun H locs ls hP hS hl => lv_dup2_11 C.ex C.by hdg ha hb (k H locs ls hP hS hl)
theorem x_pop (C : CF x g own cc nL rm) {a : Value} (hdg : decode cc pc = .ok (.pop, 1)) (ha : a.category = 1) (pn : Nat) (hp : pc + 1 = pn) (k : WW x g nL ce sl pn lv st σ) : WW x g nL ce sl pc lv (a :: st) σ := by
  subst hp
  exact fun H locs ls hP hS hl => lv_pop C.ex C.by hdg ha (k H locs ls hP hS hl)
theorem x_goto (C : CF x g own cc nL rm) {off : Int} (hdg : decode cc pc = .ok (.goto off, 3)) (pn : Nat) (ht : (pc : Int) + off = (pn : Int)) (k : WW x g nL ce sl pn lv st σ) : WW x g nL ce sl pc lv st σ :=
  fun H locs ls hP hS hl => lv_goto C.ex C.by hdg ht (k H locs ls hP hS hl)
/-- fewer locals, in another order -/
theorem x_sub {lw : List (Nat × Value)} (ks : List Nat) (h : lv_pick lv ks = lw) (k : WW x g nL ce sl pc lw st σ) : WW x g nL ce sl pc lv st σ :=
  fun H locs ls hP hS hl => k H locs ls hP hS (lv_sub hl ks h)
theorem x_wid {ce1 sl1 : Nat} (h1 : ce ≤ ce1) (h2 : sl ≤ sl1) (k : WW x g nL ce1 sl1 pc lv st σ) : WW x g nL ce sl pc lv st σ :=
  fun H locs ls hP hS hl => W.widen h1 h2 (k H locs ls hP hS hl)
end XI
theorem gt_0 (g : Gb) (σ : WD) : (cells g σ)[0]? = some (adr g 0, .inr (6, [.ref (adr g 1), .ref (adr g 3), .ref (adr g 5), .ref (adr g 7), .ref (adr g 18), .ref (adr g 22), .ref (adr g 27)])) := rfl
theorem gt_1 (g : Gb) (σ : WD) : (cells g σ)[1]? = some (adr g 1, .inr (0, [.int (σ.1 1 0), .ref (adr g 2), .int (σ.1 1 2)])) := rfl
theorem st_1_0 (g : Gb) (σ : WD) (v : Int32) : (cells g σ).set 1 (adr g 1, .inr (0, [.int (σ.1 1 0), .ref (adr g 2), .int (σ.1 1 2)].set 0 (.int v))) = cells g (upi σ 1 0 v) := rfl
theorem st_1_2 (g : Gb) (σ : WD) (v : Int32) : (cells g σ).set 1 (adr g 1, .inr (0, [.int (σ.1 1 0), .ref (adr g 2), .int (σ.1 1 2)].set 2 (.int v))) = cells g (upi σ 1 2 v) := rfl
theorem gt_2 (g : Gb) (σ : WD) : (cells g σ)[2]? = some (adr g 2, .inl (g.2.2.1, 12, .inl (σ.1 2))) := rfl
theorem st_2 (g : Gb) (σ : WD) (f : Nat → Int32) : (cells g σ).set 2 (adr g 2, .inl (g.2.2.1, 12, .inl f)) = cells g (ups σ 2 f) := rfl
theorem gt_3 (g : Gb) (σ : WD) : (cells g σ)[3]? = some (adr g 3, .inr (3, [.ref (adr g 4)])) := rfl
theorem gt_4 (g : Gb) (σ : WD) : (cells g σ)[4]? = some (adr g 4, .inl (g.2.2.1, 12, .inl (σ.1 4))) := rfl
theorem st_4 (g : Gb) (σ : WD) (f : Nat → Int32) : (cells g σ).set 4 (adr g 4, .inl (g.2.2.1, 12, .inl f)) = cells g (ups σ 4 f) := rfl
theorem gt_5 (g : Gb) (σ : WD) : (cells g σ)[5]? = some (adr g 5, .inr (2, [.ref (adr g 6), .int (σ.1 5 1)])) := rfl
theorem st_5_1 (g : Gb) (σ : WD) (v : Int32) : (cells g σ).set 5 (adr g 5, .inr (2, [.ref (adr g 6), .int (σ.1 5 1)].set 1 (.int v))) = cells g (upi σ 5 1 v) := rfl
theorem gt_6 (g : Gb) (σ : WD) : (cells g σ)[6]? = some (adr g 6, .inl (g.2.2.1, 60, .inl (σ.1 6))) := rfl
theorem st_6 (g : Gb) (σ : WD) (f : Nat → Int32) : (cells g σ).set 6 (adr g 6, .inl (g.2.2.1, 60, .inl f)) = cells g (ups σ 6 f) := rfl
theorem gt_7 (g : Gb) (σ : WD) : (cells g σ)[7]? = some (adr g 7, .inr (1, [.ref (adr g 8), .ref (adr g 13), .int (σ.1 7 2), .int (σ.1 7 3)])) := rfl
theorem st_7_2 (g : Gb) (σ : WD) (v : Int32) : (cells g σ).set 7 (adr g 7, .inr (1, [.ref (adr g 8), .ref (adr g 13), .int (σ.1 7 2), .int (σ.1 7 3)].set 2 (.int v))) = cells g (upi σ 7 2 v) := rfl
theorem st_7_3 (g : Gb) (σ : WD) (v : Int32) : (cells g σ).set 7 (adr g 7, .inr (1, [.ref (adr g 8), .ref (adr g 13), .int (σ.1 7 2), .int (σ.1 7 3)].set 3 (.int v))) = cells g (upi σ 7 3 v) := rfl
theorem gt_8 (g : Gb) (σ : WD) : (cells g σ)[8]? = some (adr g 8, .inl (g.2.2.2.2.1, 4, .inr (.inr (.inr (.inr (rws g 9)))))) := rfl
theorem gt_9 (g : Gb) (σ : WD) : (cells g σ)[9]? = some (adr g 9, .inl (g.2.2.1, 12, .inl (σ.1 9))) := rfl
theorem st_9 (g : Gb) (σ : WD) (f : Nat → Int32) : (cells g σ).set 9 (adr g 9, .inl (g.2.2.1, 12, .inl f)) = cells g (ups σ 9 f) := rfl
theorem gt_10 (g : Gb) (σ : WD) : (cells g σ)[10]? = some (adr g 10, .inl (g.2.2.1, 12, .inl (σ.1 10))) := rfl
theorem st_10 (g : Gb) (σ : WD) (f : Nat → Int32) : (cells g σ).set 10 (adr g 10, .inl (g.2.2.1, 12, .inl f)) = cells g (ups σ 10 f) := rfl
theorem gt_11 (g : Gb) (σ : WD) : (cells g σ)[11]? = some (adr g 11, .inl (g.2.2.1, 12, .inl (σ.1 11))) := rfl
theorem st_11 (g : Gb) (σ : WD) (f : Nat → Int32) : (cells g σ).set 11 (adr g 11, .inl (g.2.2.1, 12, .inl f)) = cells g (ups σ 11 f) := rfl
theorem gt_12 (g : Gb) (σ : WD) : (cells g σ)[12]? = some (adr g 12, .inl (g.2.2.1, 12, .inl (σ.1 12))) := rfl
theorem st_12 (g : Gb) (σ : WD) (f : Nat → Int32) : (cells g σ).set 12 (adr g 12, .inl (g.2.2.1, 12, .inl f)) = cells g (ups σ 12 f) := rfl
theorem gt_13 (g : Gb) (σ : WD) : (cells g σ)[13]? = some (adr g 13, .inl (g.2.2.2.2.1, 4, .inr (.inr (.inr (.inr (rws g 14)))))) := rfl
theorem gt_14 (g : Gb) (σ : WD) : (cells g σ)[14]? = some (adr g 14, .inl (g.2.2.1, 12, .inl (σ.1 14))) := rfl
theorem st_14 (g : Gb) (σ : WD) (f : Nat → Int32) : (cells g σ).set 14 (adr g 14, .inl (g.2.2.1, 12, .inl f)) = cells g (ups σ 14 f) := rfl
theorem gt_15 (g : Gb) (σ : WD) : (cells g σ)[15]? = some (adr g 15, .inl (g.2.2.1, 12, .inl (σ.1 15))) := rfl
theorem st_15 (g : Gb) (σ : WD) (f : Nat → Int32) : (cells g σ).set 15 (adr g 15, .inl (g.2.2.1, 12, .inl f)) = cells g (ups σ 15 f) := rfl
theorem gt_16 (g : Gb) (σ : WD) : (cells g σ)[16]? = some (adr g 16, .inl (g.2.2.1, 12, .inl (σ.1 16))) := rfl
theorem st_16 (g : Gb) (σ : WD) (f : Nat → Int32) : (cells g σ).set 16 (adr g 16, .inl (g.2.2.1, 12, .inl f)) = cells g (ups σ 16 f) := rfl
theorem gt_17 (g : Gb) (σ : WD) : (cells g σ)[17]? = some (adr g 17, .inl (g.2.2.1, 12, .inl (σ.1 17))) := rfl
theorem st_17 (g : Gb) (σ : WD) (f : Nat → Int32) : (cells g σ).set 17 (adr g 17, .inl (g.2.2.1, 12, .inl f)) = cells g (ups σ 17 f) := rfl
theorem gt_18 (g : Gb) (σ : WD) : (cells g σ)[18]? = some (adr g 18, .inr (5, [.ref (adr g 1), .ref (adr g 3), .ref (adr g 19), .ref (adr g 20), .ref (adr g 21), .int (σ.1 18 5), .int (σ.1 18 6)])) := rfl
theorem st_18_5 (g : Gb) (σ : WD) (v : Int32) : (cells g σ).set 18 (adr g 18, .inr (5, [.ref (adr g 1), .ref (adr g 3), .ref (adr g 19), .ref (adr g 20), .ref (adr g 21), .int (σ.1 18 5), .int (σ.1 18 6)].set 5 (.int v))) = cells g (upi σ 18 5 v) := rfl
theorem st_18_6 (g : Gb) (σ : WD) (v : Int32) : (cells g σ).set 18 (adr g 18, .inr (5, [.ref (adr g 1), .ref (adr g 3), .ref (adr g 19), .ref (adr g 20), .ref (adr g 21), .int (σ.1 18 5), .int (σ.1 18 6)].set 6 (.int v))) = cells g (upi σ 18 6 v) := rfl
theorem gt_19 (g : Gb) (σ : WD) : (cells g σ)[19]? = some (adr g 19, .inl (g.2.2.1, 12, .inl (σ.1 19))) := rfl
theorem st_19 (g : Gb) (σ : WD) (f : Nat → Int32) : (cells g σ).set 19 (adr g 19, .inl (g.2.2.1, 12, .inl f)) = cells g (ups σ 19 f) := rfl
theorem gt_20 (g : Gb) (σ : WD) : (cells g σ)[20]? = some (adr g 20, .inl (g.2.2.1, 64, .inl (σ.1 20))) := rfl
theorem st_20 (g : Gb) (σ : WD) (f : Nat → Int32) : (cells g σ).set 20 (adr g 20, .inl (g.2.2.1, 64, .inl f)) = cells g (ups σ 20 f) := rfl
theorem gt_21 (g : Gb) (σ : WD) : (cells g σ)[21]? = some (adr g 21, .inl (g.2.2.1, 12, .inl (σ.1 21))) := rfl
theorem st_21 (g : Gb) (σ : WD) (f : Nat → Int32) : (cells g σ).set 21 (adr g 21, .inl (g.2.2.1, 12, .inl f)) = cells g (ups σ 21 f) := rfl
theorem gt_22 (g : Gb) (σ : WD) : (cells g σ)[22]? = some (adr g 22, .inr (4, [.ref (adr g 1), .ref (adr g 23), .ref (adr g 24), .ref (adr g 25), .int (σ.1 22 4), .int (σ.1 22 5)])) := rfl
theorem st_22_4 (g : Gb) (σ : WD) (v : Int32) : (cells g σ).set 22 (adr g 22, .inr (4, [.ref (adr g 1), .ref (adr g 23), .ref (adr g 24), .ref (adr g 25), .int (σ.1 22 4), .int (σ.1 22 5)].set 4 (.int v))) = cells g (upi σ 22 4 v) := rfl
theorem st_22_5 (g : Gb) (σ : WD) (v : Int32) : (cells g σ).set 22 (adr g 22, .inr (4, [.ref (adr g 1), .ref (adr g 23), .ref (adr g 24), .ref (adr g 25), .int (σ.1 22 4), .int (σ.1 22 5)].set 5 (.int v))) = cells g (upi σ 22 5 v) := rfl
theorem gt_23 (g : Gb) (σ : WD) : (cells g σ)[23]? = some (adr g 23, .inl (g.2.2.1, 4096, .inl (σ.1 23))) := rfl
theorem st_23 (g : Gb) (σ : WD) (f : Nat → Int32) : (cells g σ).set 23 (adr g 23, .inl (g.2.2.1, 4096, .inl f)) = cells g (ups σ 23 f) := rfl
theorem gt_24 (g : Gb) (σ : WD) : (cells g σ)[24]? = some (adr g 24, .inl (g.2.2.1, 4096, .inl (σ.1 24))) := rfl
theorem st_24 (g : Gb) (σ : WD) (f : Nat → Int32) : (cells g σ).set 24 (adr g 24, .inl (g.2.2.1, 4096, .inl f)) = cells g (ups σ 24 f) := rfl
theorem gt_25 (g : Gb) (σ : WD) : (cells g σ)[25]? = some (adr g 25, .inr (3, [.ref (adr g 26)])) := rfl
theorem gt_26 (g : Gb) (σ : WD) : (cells g σ)[26]? = some (adr g 26, .inl (g.2.2.1, 12, .inl (σ.1 26))) := rfl
theorem st_26 (g : Gb) (σ : WD) (f : Nat → Int32) : (cells g σ).set 26 (adr g 26, .inl (g.2.2.1, 12, .inl f)) = cells g (ups σ 26 f) := rfl
theorem gt_27 (g : Gb) (σ : WD) : (cells g σ)[27]? = some (adr g 27, .inr (0, [.int (σ.1 27 0), .ref (adr g 28), .int (σ.1 27 2)])) := rfl
theorem st_27_0 (g : Gb) (σ : WD) (v : Int32) : (cells g σ).set 27 (adr g 27, .inr (0, [.int (σ.1 27 0), .ref (adr g 28), .int (σ.1 27 2)].set 0 (.int v))) = cells g (upi σ 27 0 v) := rfl
theorem st_27_2 (g : Gb) (σ : WD) (v : Int32) : (cells g σ).set 27 (adr g 27, .inr (0, [.int (σ.1 27 0), .ref (adr g 28), .int (σ.1 27 2)].set 2 (.int v))) = cells g (upi σ 27 2 v) := rfl
theorem gt_28 (g : Gb) (σ : WD) : (cells g σ)[28]? = some (adr g 28, .inl (g.2.2.1, 12, .inl (σ.1 28))) := rfl
theorem st_28 (g : Gb) (σ : WD) (f : Nat → Int32) : (cells g σ).set 28 (adr g 28, .inl (g.2.2.1, 12, .inl f)) = cells g (ups σ 28 f) := rfl
theorem gt_29 (g : Gb) (σ : WD) : (cells g σ)[29]? = some (adr g 29, .inr (7, [.int (σ.1 29 0), .int (σ.1 29 1), .ref (adr g 30), .ref (adr g 31), .int (σ.1 29 4), .ref (adr g 32), .int (σ.1 29 6), .ref (adr g 33), .ref (adr g 34), .ref (adr g 35), .ref (adr g 36), .ref (adr g 37), .ref (adr g 38), .int (σ.1 29 13), .int (σ.1 29 14), .int (σ.1 29 15), .int (σ.1 29 16), .ref (adr g 39), .long σ.2.1])) := rfl
theorem st_29_0 (g : Gb) (σ : WD) (v : Int32) : (cells g σ).set 29 (adr g 29, .inr (7, [.int (σ.1 29 0), .int (σ.1 29 1), .ref (adr g 30), .ref (adr g 31), .int (σ.1 29 4), .ref (adr g 32), .int (σ.1 29 6), .ref (adr g 33), .ref (adr g 34), .ref (adr g 35), .ref (adr g 36), .ref (adr g 37), .ref (adr g 38), .int (σ.1 29 13), .int (σ.1 29 14), .int (σ.1 29 15), .int (σ.1 29 16), .ref (adr g 39), .long σ.2.1].set 0 (.int v))) = cells g (upi σ 29 0 v) := rfl
theorem st_29_1 (g : Gb) (σ : WD) (v : Int32) : (cells g σ).set 29 (adr g 29, .inr (7, [.int (σ.1 29 0), .int (σ.1 29 1), .ref (adr g 30), .ref (adr g 31), .int (σ.1 29 4), .ref (adr g 32), .int (σ.1 29 6), .ref (adr g 33), .ref (adr g 34), .ref (adr g 35), .ref (adr g 36), .ref (adr g 37), .ref (adr g 38), .int (σ.1 29 13), .int (σ.1 29 14), .int (σ.1 29 15), .int (σ.1 29 16), .ref (adr g 39), .long σ.2.1].set 1 (.int v))) = cells g (upi σ 29 1 v) := rfl
theorem st_29_4 (g : Gb) (σ : WD) (v : Int32) : (cells g σ).set 29 (adr g 29, .inr (7, [.int (σ.1 29 0), .int (σ.1 29 1), .ref (adr g 30), .ref (adr g 31), .int (σ.1 29 4), .ref (adr g 32), .int (σ.1 29 6), .ref (adr g 33), .ref (adr g 34), .ref (adr g 35), .ref (adr g 36), .ref (adr g 37), .ref (adr g 38), .int (σ.1 29 13), .int (σ.1 29 14), .int (σ.1 29 15), .int (σ.1 29 16), .ref (adr g 39), .long σ.2.1].set 4 (.int v))) = cells g (upi σ 29 4 v) := rfl
theorem st_29_6 (g : Gb) (σ : WD) (v : Int32) : (cells g σ).set 29 (adr g 29, .inr (7, [.int (σ.1 29 0), .int (σ.1 29 1), .ref (adr g 30), .ref (adr g 31), .int (σ.1 29 4), .ref (adr g 32), .int (σ.1 29 6), .ref (adr g 33), .ref (adr g 34), .ref (adr g 35), .ref (adr g 36), .ref (adr g 37), .ref (adr g 38), .int (σ.1 29 13), .int (σ.1 29 14), .int (σ.1 29 15), .int (σ.1 29 16), .ref (adr g 39), .long σ.2.1].set 6 (.int v))) = cells g (upi σ 29 6 v) := rfl
theorem st_29_13 (g : Gb) (σ : WD) (v : Int32) : (cells g σ).set 29 (adr g 29, .inr (7, [.int (σ.1 29 0), .int (σ.1 29 1), .ref (adr g 30), .ref (adr g 31), .int (σ.1 29 4), .ref (adr g 32), .int (σ.1 29 6), .ref (adr g 33), .ref (adr g 34), .ref (adr g 35), .ref (adr g 36), .ref (adr g 37), .ref (adr g 38), .int (σ.1 29 13), .int (σ.1 29 14), .int (σ.1 29 15), .int (σ.1 29 16), .ref (adr g 39), .long σ.2.1].set 13 (.int v))) = cells g (upi σ 29 13 v) := rfl
theorem st_29_14 (g : Gb) (σ : WD) (v : Int32) : (cells g σ).set 29 (adr g 29, .inr (7, [.int (σ.1 29 0), .int (σ.1 29 1), .ref (adr g 30), .ref (adr g 31), .int (σ.1 29 4), .ref (adr g 32), .int (σ.1 29 6), .ref (adr g 33), .ref (adr g 34), .ref (adr g 35), .ref (adr g 36), .ref (adr g 37), .ref (adr g 38), .int (σ.1 29 13), .int (σ.1 29 14), .int (σ.1 29 15), .int (σ.1 29 16), .ref (adr g 39), .long σ.2.1].set 14 (.int v))) = cells g (upi σ 29 14 v) := rfl
theorem st_29_15 (g : Gb) (σ : WD) (v : Int32) : (cells g σ).set 29 (adr g 29, .inr (7, [.int (σ.1 29 0), .int (σ.1 29 1), .ref (adr g 30), .ref (adr g 31), .int (σ.1 29 4), .ref (adr g 32), .int (σ.1 29 6), .ref (adr g 33), .ref (adr g 34), .ref (adr g 35), .ref (adr g 36), .ref (adr g 37), .ref (adr g 38), .int (σ.1 29 13), .int (σ.1 29 14), .int (σ.1 29 15), .int (σ.1 29 16), .ref (adr g 39), .long σ.2.1].set 15 (.int v))) = cells g (upi σ 29 15 v) := rfl
theorem st_29_16 (g : Gb) (σ : WD) (v : Int32) : (cells g σ).set 29 (adr g 29, .inr (7, [.int (σ.1 29 0), .int (σ.1 29 1), .ref (adr g 30), .ref (adr g 31), .int (σ.1 29 4), .ref (adr g 32), .int (σ.1 29 6), .ref (adr g 33), .ref (adr g 34), .ref (adr g 35), .ref (adr g 36), .ref (adr g 37), .ref (adr g 38), .int (σ.1 29 13), .int (σ.1 29 14), .int (σ.1 29 15), .int (σ.1 29 16), .ref (adr g 39), .long σ.2.1].set 16 (.int v))) = cells g (upi σ 29 16 v) := rfl
theorem st_29_18 (g : Gb) (σ : WD) (v : Int64) : (cells g σ).set 29 (adr g 29, .inr (7, [.int (σ.1 29 0), .int (σ.1 29 1), .ref (adr g 30), .ref (adr g 31), .int (σ.1 29 4), .ref (adr g 32), .int (σ.1 29 6), .ref (adr g 33), .ref (adr g 34), .ref (adr g 35), .ref (adr g 36), .ref (adr g 37), .ref (adr g 38), .int (σ.1 29 13), .int (σ.1 29 14), .int (σ.1 29 15), .int (σ.1 29 16), .ref (adr g 39), .long σ.2.1].set 18 (.long v))) = cells g (uph σ v) := rfl
theorem gt_30 (g : Gb) (σ : WD) : (cells g σ)[30]? = some (adr g 30, .inl (g.2.2.1, 12, .inl (σ.1 30))) := rfl
theorem st_30 (g : Gb) (σ : WD) (f : Nat → Int32) : (cells g σ).set 30 (adr g 30, .inl (g.2.2.1, 12, .inl f)) = cells g (ups σ 30 f) := rfl
theorem gt_31 (g : Gb) (σ : WD) : (cells g σ)[31]? = some (adr g 31, .inl (g.2.2.1, 12, .inl (σ.1 31))) := rfl
theorem st_31 (g : Gb) (σ : WD) (f : Nat → Int32) : (cells g σ).set 31 (adr g 31, .inl (g.2.2.1, 12, .inl f)) = cells g (ups σ 31 f) := rfl
theorem gt_32 (g : Gb) (σ : WD) : (cells g σ)[32]? = some (adr g 32, .inl (g.2.2.1, 96, .inl (σ.1 32))) := rfl
theorem st_32 (g : Gb) (σ : WD) (f : Nat → Int32) : (cells g σ).set 32 (adr g 32, .inl (g.2.2.1, 96, .inl f)) = cells g (ups σ 32 f) := rfl
theorem gt_33 (g : Gb) (σ : WD) : (cells g σ)[33]? = some (adr g 33, .inl (g.2.2.1, 60, .inl (σ.1 33))) := rfl
theorem st_33 (g : Gb) (σ : WD) (f : Nat → Int32) : (cells g σ).set 33 (adr g 33, .inl (g.2.2.1, 60, .inl f)) = cells g (ups σ 33 f) := rfl
theorem gt_34 (g : Gb) (σ : WD) : (cells g σ)[34]? = some (adr g 34, .inl (g.2.2.1, 4096, .inl (σ.1 34))) := rfl
theorem st_34 (g : Gb) (σ : WD) (f : Nat → Int32) : (cells g σ).set 34 (adr g 34, .inl (g.2.2.1, 4096, .inl f)) = cells g (ups σ 34 f) := rfl
theorem gt_35 (g : Gb) (σ : WD) : (cells g σ)[35]? = some (adr g 35, .inl (g.2.2.1, 4096, .inl (σ.1 35))) := rfl
theorem st_35 (g : Gb) (σ : WD) (f : Nat → Int32) : (cells g σ).set 35 (adr g 35, .inl (g.2.2.1, 4096, .inl f)) = cells g (ups σ 35 f) := rfl
theorem gt_36 (g : Gb) (σ : WD) : (cells g σ)[36]? = some (adr g 36, .inl (g.2.2.1, 12, .inl (σ.1 36))) := rfl
theorem st_36 (g : Gb) (σ : WD) (f : Nat → Int32) : (cells g σ).set 36 (adr g 36, .inl (g.2.2.1, 12, .inl f)) = cells g (ups σ 36 f) := rfl
theorem gt_37 (g : Gb) (σ : WD) : (cells g σ)[37]? = some (adr g 37, .inl (g.2.2.1, 14, .inl (σ.1 37))) := rfl
theorem st_37 (g : Gb) (σ : WD) (f : Nat → Int32) : (cells g σ).set 37 (adr g 37, .inl (g.2.2.1, 14, .inl f)) = cells g (ups σ 37 f) := rfl
theorem gt_38 (g : Gb) (σ : WD) : (cells g σ)[38]? = some (adr g 38, .inl (g.2.2.1, 14, .inl (σ.1 38))) := rfl
theorem st_38 (g : Gb) (σ : WD) (f : Nat → Int32) : (cells g σ).set 38 (adr g 38, .inl (g.2.2.1, 14, .inl f)) = cells g (ups σ 38 f) := rfl
theorem gt_39 (g : Gb) (σ : WD) : (cells g σ)[39]? = some (adr g 39, .inl (g.2.2.1, 90, .inl (σ.1 39))) := rfl
theorem st_39 (g : Gb) (σ : WD) (f : Nat → Int32) : (cells g σ).set 39 (adr g 39, .inl (g.2.2.1, 90, .inl f)) = cells g (ups σ 39 f) := rfl
theorem gt_40 (g : Gb) (σ : WD) : (cells g σ)[40]? = some (adr g 40, .inl (g.2.2.2.1, 1, .inr (.inl (fun j => if j = 0 then σ.2.2 else 0)))) := rfl
theorem st_40 (g : Gb) (σ : WD) (v : Int64) : (cells g σ).set 40 (adr g 40, .inl (g.2.2.2.1, 1, .inr (.inl (vp_updL (fun j => if j = 0 then σ.2.2 else 0) 0 v)))) = cells g (upo σ v) := by
  have hf : vp_updL (fun j => if j = 0 then σ.2.2 else 0) 0 v = fun j => if j = 0 then (upo σ v).2.2 else 0 := by
    funext j
    by_cases h : j = 0 <;> simp [vp_updL, upo, h]
  rw [hf]
  rfl
end
section
section XJ
variable {x : Cx} {g : Gb} {own : String} {cc : ByteArray} {nL ce sl pc : Nat} {rm : Room} {lv : List (Nat × Value)} {st : List Value} {σ : WD}
theorem x_icmp_eq (C : CF x g own cc nL rm) {a b : Int32} {off : Int} (hdg : decode cc pc = .ok (.if_icmp .eq off, 3)) (tg : Nat) (ht : (pc : Int) + off = (tg : Int)) (pn : Nat) (hp : pc + 3 = pn) (kt : a = b → WW x g nL ce sl tg lv st σ) (kf : ¬ a = b → WW x g nL ce sl pn lv st σ) : WW x g nL ce sl pc lv (.int b :: .int a :: st) σ := by
  subst hp
  exact fun H locs ls hP hS hl => lv_icmp_eq C.ex C.by hdg ht (fun h => kt h H locs ls hP hS hl) (fun h => kf h H locs ls hP hS hl)
theorem x_icmp_ne (C : CF x g own cc nL rm) {a b : Int32} {off : Int} (hdg : decode cc pc = .ok (.if_icmp .ne off, 3)) (tg : Nat) (ht : (pc : Int) + off = (tg : Int)) (pn : Nat) (hp : pc + 3 = pn) (kt : ¬ a = b → WW x g nL ce sl tg lv st σ) (kf : a = b → WW x g nL ce sl pn lv st σ) : WW x g nL ce sl pc lv (.int b :: .int a :: st) σ := by
  subst hp
  exact fun H locs ls hP hS hl => lv_icmp_ne C.ex C.by hdg ht (fun h => kt h H locs ls hP hS hl) (fun h => kf h H locs ls hP hS hl)
theorem x_icmp_lt (C : CF x g own cc nL rm) {a b : Int32} {off : Int} (hdg : decode cc pc = .ok (.if_icmp .lt off, 3)) (tg : Nat) (ht : (pc : Int) + off = (tg : Int)) (pn : Nat) (hp : pc + 3 = pn) (kt : a < b → WW x g nL ce sl tg lv st σ) (kf : ¬ a < b → WW x g nL ce sl pn lv st σ) : WW x g nL ce sl pc lv (.int b :: .int a :: st) σ := by
  subst hp
  exact fun H locs ls hP hS hl => lv_icmp_lt C.ex C.by hdg ht (fun h => kt h H locs ls hP hS hl) (fun h => kf h H locs ls hP hS hl)
theorem x_icmp_ge (C : CF x g own cc nL rm) {a b : Int32} {off : Int} (hdg : decode cc pc = .ok (.if_icmp .ge off, 3)) (tg : Nat) (ht : (pc : Int) + off = (tg : Int)) (pn : Nat) (hp : pc + 3 = pn) (kt : b ≤ a → WW x g nL ce sl tg lv st σ) (kf : ¬ b ≤ a → WW x g nL ce sl pn lv st σ) : WW x g nL ce sl pc lv (.int b :: .int a :: st) σ := by
  subst hp
  exact fun H locs ls hP hS hl => lv_icmp_ge C.ex C.by hdg ht (fun h => kt h H locs ls hP hS hl) (fun h => kf h H locs ls hP hS hl)
theorem x_icmp_gt (C : CF x g own cc nL rm) {a b : Int32} {off : Int} (hdg : decode cc pc = .ok (.if_icmp .gt off, 3)) (tg : Nat) (ht : (pc : Int) + off = (tg : Int)) (pn : Nat) (hp : pc + 3 = pn) (kt : b < a → WW x g nL ce sl tg lv st σ) (kf : ¬ b < a → WW x g nL ce sl pn lv st σ) : WW x g nL ce sl pc lv (.int b :: .int a :: st) σ := by
  subst hp
  exact fun H locs ls hP hS hl => lv_icmp_gt C.ex C.by hdg ht (fun h => kt h H locs ls hP hS hl) (fun h => kf h H locs ls hP hS hl)
theorem x_icmp_le (C : CF x g own cc nL rm) {a b : Int32} {off : Int} (hdg : decode cc pc = .ok (.if_icmp .le off, 3)) (tg : Nat) (ht : (pc : Int) + off = (tg : Int)) (pn : Nat) (hp : pc + 3 = pn) (kt : a ≤ b → WW x g nL ce sl tg lv st σ) (kf : ¬ a ≤ b → WW x g nL ce sl pn lv st σ) : WW x g nL ce sl pc lv (.int b :: .int a :: st) σ := by
  subst hp
  exact fun H locs ls hP hS hl => lv_icmp_le C.ex C.by hdg ht (fun h => kt h H locs ls hP hS hl) (fun h => kf h H locs ls hP hS hl)
theorem x_if_eq (C : CF x g own cc nL rm) {a : Int32} {off : Int} (hdg : decode cc pc = .ok (.ifCond .eq off, 3)) (tg : Nat) (ht : (pc : Int) + off = (tg : Int)) (pn : Nat) (hp : pc + 3 = pn) (kt : a = 0 → WW x g nL ce sl tg lv st σ) (kf : ¬ a = 0 → WW x g nL ce sl pn lv st σ) : WW x g nL ce sl pc lv (.int a :: st) σ := by
  subst hp
  exact fun H locs ls hP hS hl => lv_if_eq C.ex C.by hdg ht (fun h => kt h H locs ls hP hS hl) (fun h => kf h H locs ls hP hS hl)
theorem x_if_ne (C : CF x g own cc nL rm) {a : Int32} {off : Int} (hdg : decode cc pc = .ok (.ifCond .ne off, 3)) (tg : Nat) (ht : (pc : Int) + off = (tg : Int)) (pn : Nat) (hp : pc + 3 = pn) (kt : ¬ a = 0 → WW x g nL ce sl tg lv st σ) (kf : a = 0 → WW x g nL ce sl pn lv st σ) : WW x g nL ce sl pc lv (.int a :: st) σ := by
  subst hp
  exact fun H locs ls hP hS hl => lv_if_ne C.ex C.by hdg ht (fun h => kt h H locs ls hP hS hl) (fun h => kf h H locs ls hP hS hl)
theorem x_if_lt (C : CF x g own cc nL rm) {a : Int32} {off : Int} (hdg : decode cc pc = .ok (.ifCond .lt off, 3)) (tg : Nat) (ht : (pc : Int) + off = (tg : Int)) (pn : Nat) (hp : pc + 3 = pn) (kt : a < 0 → WW x g nL ce sl tg lv st σ) (kf : ¬ a < 0 → WW x g nL ce sl pn lv st σ) : WW x g nL ce sl pc lv (.int a :: st) σ := by
  subst hp
  exact fun H locs ls hP hS hl => lv_if_lt C.ex C.by hdg ht (fun h => kt h H locs ls hP hS hl) (fun h => kf h H locs ls hP hS hl)
theorem x_if_ge (C : CF x g own cc nL rm) {a : Int32} {off : Int} (hdg : decode cc pc = .ok (.ifCond .ge off, 3)) (tg : Nat) (ht : (pc : Int) + off = (tg : Int)) (pn : Nat) (hp : pc + 3 = pn) (kt : 0 ≤ a → WW x g nL ce sl tg lv st σ) (kf : ¬ 0 ≤ a → WW x g nL ce sl pn lv st σ) : WW x g nL ce sl pc lv (.int a :: st) σ := by
  subst hp
  exact fun H locs ls hP hS hl => lv_if_ge C.ex C.by hdg ht (fun h => kt h H locs ls hP hS hl) (fun h => kf h H locs ls hP hS hl)
theorem x_if_gt (C : CF x g own cc nL rm) {a : Int32} {off : Int} (hdg : decode cc pc = .ok (.ifCond .gt off, 3)) (tg : Nat) (ht : (pc : Int) + off = (tg : Int)) (pn : Nat) (hp : pc + 3 = pn) (kt : 0 < a → WW x g nL ce sl tg lv st σ) (kf : ¬ 0 < a → WW x g nL ce sl pn lv st σ) : WW x g nL ce sl pc lv (.int a :: st) σ := by
  subst hp
  exact fun H locs ls hP hS hl => lv_if_gt C.ex C.by hdg ht (fun h => kt h H locs ls hP hS hl) (fun h => kf h H locs ls hP hS hl)
theorem x_if_le (C : CF x g own cc nL rm) {a : Int32} {off : Int} (hdg : decode cc pc = .ok (.ifCond .le off, 3)) (tg : Nat) (ht : (pc : Int) + off = (tg : Int)) (pn : Nat) (hp : pc + 3 = pn) (kt : a ≤ 0 → WW x g nL ce sl tg lv st σ) (kf : ¬ a ≤ 0 → WW x g nL ce sl pn lv st σ) : WW x g nL ce sl pc lv (.int a :: st) σ := by
  subst hp
  exact fun H locs ls hP hS hl => lv_if_le C.ex C.by hdg ht (fun h => kt h H locs ls hP hS hl) (fun h => kf h H locs ls hP hS hl)
/-- a table's place: by the number itself -/
theorem x_tabIn (C : CF x g own cc nL rm) {a : Int32} {dflt lo hi : Int} {offs : Array Int} {len : Nat} (v : Int32) (hv : a = v) (hdg : decode cc pc = .ok (.tableswitch dflt lo hi offs, len)) (off : Int) (hk : (¬ v.toInt < lo) ∧ (¬ hi < v.toInt) ∧ offs[(v.toInt - lo).toNat]? = some off) (tg : Nat) (ht : (pc : Int) + off = (tg : Int)) (k : WW x g nL ce sl tg lv st σ) : WW x g nL ce sl pc lv (.int a :: st) σ := by
  subst hv
  exact fun H locs ls hP hS hl => lv_tableIn C.ex C.by hdg hk.1 hk.2.1 hk.2.2 ht (k H locs ls hP hS hl)
theorem x_tabOut (C : CF x g own cc nL rm) {a : Int32} {dflt lo hi : Int} {offs : Array Int} {len : Nat} (hdg : decode cc pc = .ok (.tableswitch dflt lo hi offs, len)) (h : a.toInt < lo ∨ hi < a.toInt) (tg : Nat) (ht : (pc : Int) + dflt = (tg : Int)) (k : WW x g nL ce sl tg lv st σ) : WW x g nL ce sl pc lv (.int a :: st) σ :=
  fun H locs ls hP hS hl => lv_tableOut C.ex C.by hdg h ht (k H locs ls hP hS hl)
theorem x_get (C : CF x g own cc nL rm) {idx : Nat} {R : String} {T : u_T} {N ci : Nat} {fs : List Value} {v : Value} (k j : Nat) (hg : (cells g σ)[k]? = some (adr g k, .inr (ci, fs))) (hc : vwCl[ci]? = some (R, T, N)) (hin : ∀ w ∈ u_ws R T N, w ∈ WS) (hj : j < N) (hl0 : Cond.fieldLink own idx (T j).1 (T j).2.1 (T j).2.2.1 ∈ WS) (hv : fs[j]? = some v) (hdg : decode cc pc = .ok (.getfield idx, 3)) (pn : Nat) (hp : pc + 3 = pn) (kk : WW x g nL ce sl pn lv (v :: st) σ) : WW x g nL ce sl pc lv (.ref (adr g k) :: st) σ := by
  subst hp
  exact fun H locs ls hP hS hl => va_get (D := g.1) C.ex C.by C.ts hin C.ow C.K hP k hg hc j hj (C.ts _ hl0) (fun _ h => h) hv hdg (kk H locs ls hP hS hl)
theorem x_getN (C : CF x g own cc nL rm) {idx : Nat} {host R : String} {T : u_T} {N ci : Nat} {fs : List Value} {v : Value} (k j : Nat) (hg : (cells g σ)[k]? = some (adr g k, .inr (ci, fs))) (hc : vwCl[ci]? = some (R, T, N)) (hin : ∀ w ∈ u_ws R T N, w ∈ WS) (hj : j < N) (hl0 : ∀ {U : State}, NW U → va_Nw (Cond.fieldLinkNest own idx (T j).1 (T j).2.1 (T j).2.2.1 host) U) (hv : fs[j]? = some v) (hdg : decode cc pc = .ok (.getfield idx, 3)) (pn : Nat) (hp : pc + 3 = pn) (kk : WW x g nL ce sl pn lv (v :: st) σ) : WW x g nL ce sl pc lv (.ref (adr g k) :: st) σ := by
  subst hp
  exact fun H locs ls hP hS hl => va_getN (D := g.1) C.ex C.by C.ts hin C.ow C.K hP k hg hc j hj (va_Nw.use rfl (hl0 C.nw)) (fun _ h => h) hv hdg (kk H locs ls hP hS hl)
theorem x_put (C : CF x g own cc nL rm) {idx : Nat} {R : String} {T : u_T} {N ci : Nat} {fs : List Value} {v : Value} {ty : FieldType} {σ' : WD} (k j : Nat) (hg : (cells g σ)[k]? = some (adr g k, .inr (ci, fs))) (hc : vwCl[ci]? = some (R, T, N)) (hin : ∀ w ∈ u_ws R T N, w ∈ WS) (ty0 : Nat → FieldType) (hty : ∀ k, k < N → parseFieldDescriptor (T k).2.2.1 = some (ty0 k)) (hnm : ∀ a, a < N → ∀ b, b < N → a ≠ b → (T a).2.1 ≠ (T b).2.1) (hj : j < N) (hl0 : Cond.fieldLink own idx (T j).1 (T j).2.1 (T j).2.2.1 ∈ WS) (hfin : (T j).2.2.2 = false) (hd : parseFieldDescriptor (T j).2.2.1 = some ty) (hn : narrow ty v = v) (hfit : fits ty v = true) (hl9 : j < fs.length) (hs : (cells g σ).set k (adr g k, .inr (ci, fs.set j v)) = cells g σ') (hdg : decode cc pc = .ok (.putfield idx, 3)) (pn : Nat) (hp : pc + 3 = pn) (kk : WW x g nL ce sl pn lv st σ') : WW x g nL ce sl pc lv (v :: .ref (adr g k) :: st) σ := by
  subst hp
  exact fun H locs ls hP hS hl => va_put (D := g.1) C.ex C.by C.ts hin ty0 hty hnm C.ow C.K hP (C.D σ) hS k hg hc j hj (C.ts _ hl0) (fun _ h => h) hfin hd hn hfit hl9 hdg (fun H1 locs1 hP1 _ hS1 => kk H1 locs1 ls (hs ▸ hP1) hS1 hl)
theorem x_putN (C : CF x g own cc nL rm) {idx : Nat} {host R : String} {T : u_T} {N ci : Nat} {fs : List Value} {v : Value} {ty : FieldType} {σ' : WD} (k j : Nat) (hg : (cells g σ)[k]? = some (adr g k, .inr (ci, fs))) (hc : vwCl[ci]? = some (R, T, N)) (hin : ∀ w ∈ u_ws R T N, w ∈ WS) (ty0 : Nat → FieldType) (hty : ∀ k, k < N → parseFieldDescriptor (T k).2.2.1 = some (ty0 k)) (hnm : ∀ a, a < N → ∀ b, b < N → a ≠ b → (T a).2.1 ≠ (T b).2.1) (hj : j < N) (hl0 : ∀ {U : State}, NW U → va_Nw (Cond.fieldLinkNest own idx (T j).1 (T j).2.1 (T j).2.2.1 host) U) (hfin : (T j).2.2.2 = false) (hd : parseFieldDescriptor (T j).2.2.1 = some ty) (hn : narrow ty v = v) (hfit : fits ty v = true) (hl9 : j < fs.length) (hs : (cells g σ).set k (adr g k, .inr (ci, fs.set j v)) = cells g σ') (hdg : decode cc pc = .ok (.putfield idx, 3)) (pn : Nat) (hp : pc + 3 = pn) (kk : WW x g nL ce sl pn lv st σ') : WW x g nL ce sl pc lv (v :: .ref (adr g k) :: st) σ := by
  subst hp
  exact fun H locs ls hP hS hl => va_putN (D := g.1) C.ex C.by C.ts hin ty0 hty hnm C.ow C.K hP (C.D σ) hS k hg hc j hj (va_Nw.use rfl (hl0 C.nw)) (fun _ h => h) hfin hd hn hfit hl9 hdg (fun H1 locs1 hP1 _ hS1 => kk H1 locs1 ls (hs ▸ hP1) hS1 hl)
theorem x_iald (C : CF x g own cc nL rm) {n : Nat} {i : Int32} (k : Nat) (hg : (cells g σ)[k]? = some (adr g k, .inl (g.2.2.1, n, .inl (σ.1 k)))) (hin : ¬ (i < 0 ∨ n ≤ i.toNatClampNeg)) (hdg : decode cc pc = .ok (.iaload, 1)) (pn : Nat) (hp : pc + 1 = pn) (kk : WW x g nL ce sl pn lv (.int (σ.1 k i.toNatClampNeg) :: st) σ) : WW x g nL ce sl pc lv (.int i :: .ref (adr g k) :: st) σ := by
  subst hp
  exact fun H locs ls hP hS hl => va_iald C.ex C.by C.K hP k 0 hg rfl hin hdg (kk H locs ls hP hS hl)
theorem x_iast (C : CF x g own cc nL rm) {n : Nat} {i v : Int32} (k : Nat) (hg : (cells g σ)[k]? = some (adr g k, .inl (g.2.2.1, n, .inl (σ.1 k)))) (hs : ∀ f, (cells g σ).set k (adr g k, .inl (g.2.2.1, n, .inl f)) = cells g (ups σ k f)) (hin : ¬ (i < 0 ∨ n ≤ i.toNatClampNeg)) (hdg : decode cc pc = .ok (.iastore, 1)) (pn : Nat) (hp : pc + 1 = pn) (kk : WW x g nL ce sl pn lv st (upi σ k i.toNatClampNeg v)) : WW x g nL ce sl pc lv (.int v :: .int i :: .ref (adr g k) :: st) σ := by
  subst hp
  exact fun H locs ls hP hS hl => va_iast C.ex C.by C.K hP (C.D σ) hS k 0 hg rfl hin hdg (fun H1 locs1 hP1 _ hS1 => kk H1 locs1 ls (hs _ ▸ hP1) hS1 hl)
theorem x_alen (C : CF x g own cc nL rm) {n : Nat} {v : Int32} (k : Nat) (hg : (cells g σ)[k]? = some (adr g k, .inl (g.2.2.1, n, .inl (σ.1 k)))) (hv : Int32.ofNat n = v) (hdg : decode cc pc = .ok (.arraylength, 1)) (pn : Nat) (hp : pc + 1 = pn) (kk : WW x g nL ce sl pn lv (.int v :: st) σ) : WW x g nL ce sl pc lv (.ref (adr g k) :: st) σ := by
  subst hp
  exact fun H locs ls hP hS hl => va_alen C.ex C.by C.K hP k 0 (x := (n, .inl (σ.1 k))) hg rfl hv hdg (kk H locs ls hP hS hl)
theorem x_aald (C : CF x g own cc nL rm) {i : Int32} (k r : Nat) (hg : (cells g σ)[k]? = some (adr g k, .inl (g.2.2.2.2.1, 4, .inr (.inr (.inr (.inr (rws g r))))))) (hin : ¬ (i < 0 ∨ 4 ≤ i.toNatClampNeg)) (hdg : decode cc pc = .ok (.aaload, 1)) (pn : Nat) (hp : pc + 1 = pn) (kk : WW x g nL ce sl pn lv (.ref (adr g (r + i.toNatClampNeg)) :: st) σ) : WW x g nL ce sl pc lv (.int i :: .ref (adr g k) :: st) σ := by
  subst hp
  have hlt : i.toNatClampNeg < 4 := Nat.not_le.mp fun q => hin (Or.inr q)
  have hv : va_rf (rws g r i.toNatClampNeg) = .ref (adr g (r + i.toNatClampNeg)) := by simp [rws, hlt, va_rf]
  exact fun H locs ls hP hS hl => W.aald (v := .ref (adr g (r + i.toNatClampNeg))) (ty := .array .int) C.ex C.by (hP k _ hg) ((C.K.2 2 _ rfl).1 4 (fun j => va_rf (rws g r j))) rfl (fun q => by cases q) (by show ¬ (i < 0 ∨ (arrV _ _ _).slots.size ≤ _); rw [arrV_size]; exact hin) (by show (arrV _ _ _).slots[_]? = _; rw [arrV_read _ _ hlt]; rw [hv]) rfl rfl hdg (kk H locs ls hP hS hl)
theorem x_lald (C : CF x g own cc nL rm) (hdg : decode cc pc = .ok (.laload, 1)) (pn : Nat) (hp : pc + 1 = pn) (kk : WW x g nL ce sl pn lv (.long σ.2.2 :: st) σ) : WW x g nL ce sl pc lv (.int 0 :: .ref (adr g 40) :: st) σ := by
  subst hp
  exact fun H locs ls hP hS hl => va_lald C.ex C.by C.K hP 40 1 (gt_40 g σ) rfl (show ¬ ((0 : Int32) < 0 ∨ 1 ≤ (0 : Int32).toNatClampNeg) by decide) hdg (kk H locs ls hP hS hl)
theorem x_last (C : CF x g own cc nL rm) {v : Int64} (hdg : decode cc pc = .ok (.lastore, 1)) (pn : Nat) (hp : pc + 1 = pn) (kk : WW x g nL ce sl pn lv st (upo σ v)) : WW x g nL ce sl pc lv (.long v :: .int 0 :: .ref (adr g 40) :: st) σ := by
  subst hp
  exact fun H locs ls hP hS hl => va_last C.ex C.by C.K hP (C.D σ) hS 40 1 (gt_40 g σ) rfl (show ¬ ((0 : Int32) < 0 ∨ 1 ≤ (0 : Int32).toNatClampNeg) by decide) hdg (fun H1 locs1 hP1 _ hS1 => kk H1 locs1 ls (st_40 g σ v ▸ hP1) hS1 hl)

/-- a method's start: the world, the tables, the nest's words -/
def Wp (g : Gb) (σ : WD) (U : State) : Prop := g.2.2.2.2.2 ≤ U.heap.size ∧ va_P g.1 vwCl (cells g σ) U.heap ∧ va_K g.1 vwCl (tyl g) U ∧ (∀ σ, va_D (fA g) (cells g σ)) ∧ NW U
/-- its end: the answer, the world -/
def QC (g : Gb) (v : Option Value) (σ' : WD) : Array Value → State → Outcome → State → Prop := fun _ s oc t => (oc = .returned v ∧ va_P g.1 vwCl (cells g σ') t.heap) ∧ va_F (fA g) s t
/-- the contract -/
def MC (l : Launch) (g : Gb) (y : MethodName) (cw : Cond) (rm : Room) (av : List Value) (σ : WD) (v : Option Value) (σ' : WD) : Prop := Met l y (cw :: WS) rm (va_Pc av (Wp g σ)) (QC g v σ') 0 0 (fA g)
def rmk (f n : Nat) : Room := { frames := f, cells := 0, slots := 0, locals := n }
theorem ws_gi {cw : Cond} (h : cw ∈ WS) : GoodIn WS (cw :: WS) := fun w hw => (List.mem_cons.mp hw).elim (fun e => e ▸ ⟨h, good_of_word (ws_gd h)⟩) (fun h2 => ⟨h2, good_of_word (ws_gd h2)⟩)
theorem nw_warm {s U : State} (hW : s.WarmedH U.vm) (h : NW s) : NW U := by
  intro w hw
  have h1 := h w hw
  simp only [NWl, List.mem_cons, List.not_mem_nil, or_false] at hw
  rcases hw with rfl | rfl | rfl | rfl | rfl | rfl | rfl | rfl | rfl | rfl | rfl | rfl | rfl | rfl | rfl | rfl | rfl | rfl | rfl
  all_goals first | exact va_Nw.warmF hW h1 | exact va_Nw.warmM hW h1
theorem wp_blind {g : Gb} {av : List Value} {σ : WD} : FrameBlind (va_Pc av (Wp g σ)) := by
  intro a U gg mk q
  obtain ⟨q0, q1, q2, q3, q4, q5⟩ := q
  exact ⟨q0, q1, q2, va_K.moved (u := U) (U := U.calling gg mk a) (Vm.Alike.refl U.vm) q3, q4, fun w hw => by
    have hw' := hw
    simp only [NWl, List.mem_cons, List.not_mem_nil, or_false] at hw
    rcases hw with rfl | rfl | rfl | rfl | rfl | rfl | rfl | rfl | rfl | rfl | rfl | rfl | rfl | rfl | rfl | rfl | rfl | rfl | rfl
    all_goals exact va_Nw.same rfl (show U.vm = (U.calling gg mk a).vm from rfl) (q5 _ hw')⟩
/-- what is known of a method that is called on an object -/
def MI (y : MethodName) (cw : Cond) (bytes : ByteArray) (maxL n : Nat) (ret : Option FieldType) : Prop := cw = Cond.code y bytes maxL ret ∧ cw ∈ WS ∧ Cond.instanceMethod y ∈ WS ∧ Cond.selects y.cls y y ∈ WS ∧ Cond.initialized y.cls ∈ WS ∧ y.cls ≠ "java/lang/invoke/MethodHandle" ∧ y.cls ≠ "java/lang/invoke/VarHandle" ∧ (parseMethodDescriptor y.desc).map (fun d => d.parameters.length) = some n
/-- .. of a static one -/
def MS (y : MethodName) (cw : Cond) (bytes : ByteArray) (maxL n : Nat) (ret : Option FieldType) : Prop := cw = Cond.code y bytes maxL ret ∧ cw ∈ WS ∧ Cond.static y ∈ WS ∧ Cond.initialized y.cls ∈ WS ∧ y.cls ≠ "java/lang/invoke/MethodHandle" ∧ y.cls ≠ "java/lang/invoke/VarHandle" ∧ (parseMethodDescriptor y.desc).map (fun d => d.parameters.length) = some n
theorem x_call {v : Option Value} {σ' : WD} {H : Heap} {locs : List Loc} {ls : Array Slot} {st0 : List Value} {a : Array Value} (C : CF x g own cc nL rm)
    (hr : va_Run x.1 x.2.1 x.2.2.1 x.2.2.2.1 x.2.2.2.2.1 x.2.2.2.2.2.1 x.2.2.2.2.2.2.1 x.2.2.2.2.2.2.2.1 x.2.2.2.2.2.2.2.2.1 x.2.2.2.2.2.2.2.2.2.1 H locs ce sl 0 0 (F0 x.2.2.2.2.2.1 pc ls st0) st (QC g v σ' a) (fA g)) (hS : va_S (fA g) x.2.2.2.2.1.heap H locs) (hl : lv_has ls nL lv) (kk : WW x g nL ce sl (pc + 3) lv (v.toList ++ st) σ') :
    W x.1 x.2.1 x.2.2.1 x.2.2.2.1 x.2.2.2.2.1 x.2.2.2.2.2.1 x.2.2.2.2.2.2.1 x.2.2.2.2.2.2.2.1 x.2.2.2.2.2.2.2.2.1 x.2.2.2.2.2.2.2.2.2.1 H locs ce sl x.2.2.2.2.2.2.2.2.2.2 (F0 x.2.2.2.2.2.1 pc ls st0) := by
  intro T hT X
  obtain ⟨v1, s0, t, T', L, h0, X', hL, e1, e2, ⟨⟨hv, hb⟩, hz, hk⟩, stp⟩ := hr T hT X
  cases hv
  rw [h0] at hz hk
  obtain ⟨t2, a1, b1⟩ := kk T'.heap (locs ++ L) ls (by rw [e1]; exact hb)
    ⟨Nat.le_trans hS.1 (by rw [e1]; exact hz), fun q h1 h2 => by rw [e1, hk q (Nat.lt_of_lt_of_le h1 hS.1) h2]; exact hS.2.1 q h1 h2, fun q hq => by
      rcases List.mem_append.mp hq with h | h
      · exact hS.2.2 q h
      · exact hL q h⟩ hl T' rfl X'
  exact ⟨t2, stp t2 a1, b1⟩
theorem x_pre (C : CF x g own cc nL rm) {H : Heap} {locs : List Loc} {av : List Value} (hP : va_P g.1 vwCl (cells g σ) H) (hS : va_S (fA g) x.2.2.2.2.1.heap H locs) : ∀ U : State, U.heap = H → x.2.2.2.2.1.WarmedH U.vm → va_Pc av (Wp g σ) av.toArray U :=
  fun U hU hW => ⟨rfl, by rw [hU]; exact Nat.le_trans C.bs hS.1, by rw [hU]; exact hP, va_K.moved hW.alike C.K, C.D, nw_warm hW C.nw⟩
/-- a call on an object of the world -/
theorem x_callV (C : CF x g own cc nL rm) {y : MethodName} {cw : Cond} {bytes : ByteArray} {maxL n idx ci : Nat} {ret : Option FieldType} {rm' : Room} {v : Option Value} {σ' : WD} {fs : List Value} {T : u_T} {N : Nat} (k : Nat) (As : List Value)
    (hM : MC x.2.1 g y cw rm' (.ref (adr g k) :: As) σ v σ') (hI : MI y cw bytes maxL n ret) (hg : (cells g σ)[k]? = some (adr g k, .inr (ci, fs))) (hc : vwCl[ci]? = some (y.cls, T, N)) (hl0 : Cond.methodLink own idx y ∈ WS) (hn : As.length = n) (hz : rm'.cells = 0 ∧ rm'.slots = 0) (hR : rm'.frames + 1 ≤ rm.frames ∧ 8 + (maxL + 11) + rm'.locals ≤ rm.locals) (hce : ce ≤ rm.cells ∧ sl ≤ rm.slots) (st0 : List Value) (hst : st0 = As.reverse ++ .ref (adr g k) :: st) (hw : (st.map fun v => v.category).sum ≤ 8)
    (hdg : decode cc pc = .ok (.invokevirtual idx, 3)) (pn : Nat) (hp : pc + 3 = pn) (kk : WW x g nL ce sl pn lv (v.toList ++ st) σ') : WW x g nL ce sl pc lv st0 σ := by
  subst hp
  obtain ⟨h1, h2, h3, h4, h5, h6, h7, h8⟩ := hI
  subst h1
  intro H locs ls hP hS hl
  refine x_call C (va_runV (As := As) (rest := st) (C := y.cls) (bytes := bytes) (maxL := maxL) (ret := ret) ⟨C.ex, C.by, C.ml, C.ow, C.ts⟩ hM ⟨callB_of n C.ts (ws_gi h2) rfl hz.1 hz.2 (C.ts _ h5) (C.ts _ hl0) ⟨h6, h7, h8⟩ (by rw [C.ro]; exact hR), C.ts _ h3, C.ts _ h4⟩ ⟨wp_blind, va_recv C.K hP hc hg, x_pre C hP hS⟩ rfl hn hl.1 hst (lv_room hw) hdg (by rw [C.ro]; exact ⟨by omega, by omega⟩)) hS hl kk
theorem x_callS (C : CF x g own cc nL rm) {y : MethodName} {cw : Cond} {bytes : ByteArray} {maxL n idx : Nat} {ret : Option FieldType} {rm' : Room} {v : Option Value} {σ' : WD} (As : List Value)
    (hM : MC x.2.1 g y cw rm' As σ v σ') (hI : MS y cw bytes maxL n ret) (hl0 : Cond.methodLink own idx y ∈ WS) (hn : As.length = n) (hz : rm'.cells = 0 ∧ rm'.slots = 0) (hR : rm'.frames + 1 ≤ rm.frames ∧ 8 + (maxL + 11) + rm'.locals ≤ rm.locals) (hce : ce ≤ rm.cells ∧ sl ≤ rm.slots) (st0 : List Value) (hst : st0 = As.reverse ++ st) (hw : (st.map fun v => v.category).sum ≤ 8)
    (hdg : decode cc pc = .ok (.invokestatic idx, 3)) (pn : Nat) (hp : pc + 3 = pn) (kk : WW x g nL ce sl pn lv (v.toList ++ st) σ') : WW x g nL ce sl pc lv st0 σ := by
  subst hp
  obtain ⟨h1, h2, h3, h5, h6, h7, h8⟩ := hI
  subst h1
  intro H locs ls hP hS hl
  refine x_call C (va_runS (As := As) (rest := st) (bytes := bytes) (maxL := maxL) (ret := ret) ⟨C.ex, C.by, C.ml, C.ow, C.ts⟩ hM ⟨callB_of n C.ts (ws_gi h2) rfl hz.1 hz.2 (C.ts _ h5) (C.ts _ hl0) ⟨h6, h7, h8⟩ (by rw [C.ro]; exact hR), C.ts _ h3⟩ ⟨wp_blind, x_pre C hP hS⟩ rfl hn hl.1 hst (lv_room hw) hdg (by rw [C.ro]; exact ⟨by omega, by omega⟩)) hS hl kk
theorem x_copy (C : CF x g own cc nL rm) {idx n0 n1 : Nat} (k0 k1 : Nat) (hl0 : Cond.methodLink own idx arraycopyName ∈ WS) (hnat : Cond.native arraycopyName ∈ WS) (hstc : Cond.static arraycopyName ∈ WS) (hini : Cond.initialized "java/lang/System" ∈ WS) (hg0 : (cells g σ)[k0]? = some (adr g k0, .inl (g.2.2.1, n0, .inl (σ.1 k0)))) (hg1 : (cells g σ)[k1]? = some (adr g k1, .inl (g.2.2.1, n1, .inl (σ.1 k1)))) (hs : ∀ f, (cells g σ).set k1 (adr g k1, .inl (g.2.2.1, n1, .inl f)) = cells g (ups σ k1 f)) (hb0 : 12 ≤ n0) (hb1 : 12 ≤ n1) (hfr : 1 ≤ rm.frames) (hlo : (st.map fun v => v.category).sum + (nativeFrameWords "java/lang/System" "arraycopy" 5 + 11) ≤ rm.locals)
    (hdg : decode cc pc = .ok (.invokestatic idx, 3)) (pn : Nat) (hp : pc + 3 = pn) (kk : WW x g nL ce sl pn lv st (ups σ k1 (va_cpy (σ.1 k0) (σ.1 k1) 0 0 12))) : WW x g nL ce sl pc lv (.int 12 :: .int 0 :: .ref (adr g k1) :: .int 0 :: .ref (adr g k0) :: st) σ := by
  subst hp
  exact fun H locs ls hP hS hl => va_copyi C.ex C.by (C.ml.trans hl.1.symm) C.ow (C.ts _ hl0) (C.ts _ hnat) (C.ts _ hstc) (C.ts _ hini) C.K hP (C.D σ) hS k0 k1 0 0 hg0 hg1 rfl rfl rfl (by decide) (by decide) (by decide) hb0 hb1 (fun i _ => rfl) (by rw [C.ro]; exact hfr) (by rw [C.ro]; exact hlo) hdg (fun H1 locs1 hP1 _ hS1 => kk H1 locs1 ls (hs _ ▸ hP1) hS1 hl)

end XJ
section XK
variable {l : Launch} {g : Gb} {y : MethodName} {cc : ByteArray} {nL : Nat} {rm : Room} {av : List Value} {σ σ' : WD}
theorem MC.of {ret : Option FieldType} {v : Option Value} (hy : plainName y.cls = true) (hn : (lg_sl av).length ≤ nL) (body : ∀ x : Cx, CF x g y.cls cc nL rm → x.2.1 = l → x.2.2.2.2.2.2.2.2.1.sig.returnType = ret → x.2.2.2.2.2.2.2.2.2.2 = MQ x.2.2.2.2.2.2.2.1 (QC g v σ') x.2.2.2.2.2.2.1 x.2.2.2.2.1 0 0 (fA g) → WW x g nL 0 0 0 (lv_args 0 av) [] σ) : MC l g y (.code y cc nL ret) rm av σ v σ' := by
  refine Met.ofW (cc := cc) (maxL := nL) (ret := ret) hy rfl ?_
  intro p e s m args below meth c s₁ B hml hv
  obtain ⟨rfl, q1, q2, q3, q4, q5⟩ := hv
  have hts := atoms_spec (ws := .code y cc nL ret :: WS) B.pre
  have hl := lv_entry av (n := nL) hn
  rw [lg_entry_eq]
  exact body (p, l, e, _, s, m, _, below, meth, c, _) ⟨B.exec, B.bytes, hml, findClass_of_methodNamed B.named, fun w hw => hts w (List.mem_cons_of_mem _ hw), q3, q4, q5, q1, rfl, B.notSynchronized⟩ rfl B.returns rfl s.heap [] _ q2 va_S.rf hl
theorem x_iret {x : Cx} {own : String} {v : Int32} {pc : Nat} {lv : List (Nat × Value)} (C : CF x g own cc nL rm) (hr : x.2.2.2.2.2.2.2.2.1.sig.returnType = some .int) (hq : x.2.2.2.2.2.2.2.2.2.2 = MQ x.2.2.2.2.2.2.2.1 (QC g (some (.int v)) σ') x.2.2.2.2.2.2.1 x.2.2.2.2.1 0 0 (fA g)) (hdg : decode cc pc = .ok (.ireturn, 1)) : WW x g nL 0 0 pc lv [.int v] σ' := by
  intro H locs ls hP hS hl
  rw [hq]
  exact W.iret C.ex C.by hr (fun t ht hW => ⟨⟨rfl, by rw [ht]; exact hP⟩, hS.F ht⟩) hS.2.2 hdg C.lk
theorem x_zret {x : Cx} {own : String} {v : Int32} {pc : Nat} {lv : List (Nat × Value)} (C : CF x g own cc nL rm) (hr : x.2.2.2.2.2.2.2.2.1.sig.returnType = some .boolean) (hq : x.2.2.2.2.2.2.2.2.2.2 = MQ x.2.2.2.2.2.2.2.1 (QC g (some (.int v)) σ') x.2.2.2.2.2.2.1 x.2.2.2.2.1 0 0 (fA g)) (hn : narrow .boolean (.int v) = .int v) (hdg : decode cc pc = .ok (.ireturn, 1)) : WW x g nL 0 0 pc lv [.int v] σ' := by
  intro H locs ls hP hS hl
  rw [hq]
  exact W.zret C.ex C.by hr hn (fun t ht hW => ⟨⟨rfl, by rw [ht]; exact hP⟩, hS.F ht⟩) hS.2.2 hdg C.lk
theorem x_lret {x : Cx} {own : String} {v : Int64} {pc : Nat} {lv : List (Nat × Value)} (C : CF x g own cc nL rm) (hr : x.2.2.2.2.2.2.2.2.1.sig.returnType = some .long) (hq : x.2.2.2.2.2.2.2.2.2.2 = MQ x.2.2.2.2.2.2.2.1 (QC g (some (.long v)) σ') x.2.2.2.2.2.2.1 x.2.2.2.2.1 0 0 (fA g)) (hdg : decode cc pc = .ok (.lreturn, 1)) : WW x g nL 0 0 pc lv [.long v] σ' := by
  intro H locs ls hP hS hl
  rw [hq]
  exact W.lret C.ex C.by hr (fun t ht hW => ⟨⟨rfl, by rw [ht]; exact hP⟩, hS.F ht⟩) hS.2.2 hdg C.lk
theorem x_vret {x : Cx} {own : String} {pc : Nat} {lv : List (Nat × Value)} (C : CF x g own cc nL rm) (hr : x.2.2.2.2.2.2.2.2.1.sig.returnType = none) (hq : x.2.2.2.2.2.2.2.2.2.2 = MQ x.2.2.2.2.2.2.2.1 (QC g none σ') x.2.2.2.2.2.2.1 x.2.2.2.2.1 0 0 (fA g)) (hdg : decode cc pc = .ok (.return_, 1)) : WW x g nL 0 0 pc lv [] σ' := by
  intro H locs ls hP hS hl
  rw [hq]
  exact W.vret C.ex C.by hr (fun t ht hW => ⟨⟨rfl, by rw [ht]; exact hP⟩, hS.F ht⟩) hS.2.2 hdg C.lk
theorem x_aret {x : Cx} {own cn : String} {a pc : Nat} {lv : List (Nat × Value)} (C : CF x g own cc nL rm) (hr : x.2.2.2.2.2.2.2.2.1.sig.returnType = some (.object cn)) (hq : x.2.2.2.2.2.2.2.2.2.2 = MQ x.2.2.2.2.2.2.2.1 (QC g (some (.ref a)) σ') x.2.2.2.2.2.2.1 x.2.2.2.2.1 0 0 (fA g)) (hdg : decode cc pc = .ok (.areturn, 1)) : WW x g nL 0 0 pc lv [.ref a] σ' := by
  intro H locs ls hP hS hl
  rw [hq]
  exact W.aret C.ex C.by hr (Or.inl ⟨_, rfl⟩) (Or.inr ⟨_, rfl⟩) (fun t ht hW => ⟨⟨rfl, by rw [ht]; exact hP⟩, hS.F ht⟩) hS.2.2 hdg C.lk
end XK
-- the pure side: what may fail, loops
def gi {γ : Type} (i : Int32) (n : Nat) (k : Option γ) : Option γ := if i < 0 ∨ n ≤ i.toNatClampNeg then none else k
def gz {γ : Type} (b : Int32) (k : Option γ) : Option γ := if b = 0 then none else k
def gb {γ : Type} (b : Int32) (k : Option γ) : Option γ := if b = 0 ∨ b = 1 then k else none
def bn {α β γ : Type} (m : Option (α × β)) (k : α → β → Option γ) : Option γ := match m with | some (a, b) => k a b | none => none
def bv {α γ : Type} (m : Option α) (k : α → Option γ) : Option γ := match m with | some a => k a | none => none
/-- of a method that may throw, where it does not -/
def bt {α γ : Type} (m : Option (α ⊕ Nat)) (k : α → Option γ) : Option γ := match m with | some (.inl a) => k a | _ => none
/-- of a method that may throw, in one that passes it on -/
def bx {α γ : Type} (m : Option (α ⊕ Nat)) (k : α → Option (γ ⊕ Nat)) : Option (γ ⊕ Nat) := match m with | some (.inl a) => k a | some (.inr e) => some (.inr e) | none => none
theorem gi_some {γ : Type} {i : Int32} {n : Nat} {k : Option γ} {r : γ} (h : gi i n k = some r) : ¬ (i < 0 ∨ n ≤ i.toNatClampNeg) ∧ k = some r := by
  unfold gi at h
  split at h
  · cases h
  · exact ⟨by assumption, h⟩
theorem gz_some {γ : Type} {b : Int32} {k : Option γ} {r : γ} (h : gz b k = some r) : ¬ b = 0 ∧ k = some r := by
  unfold gz at h
  split at h
  · cases h
  · exact ⟨by assumption, h⟩
theorem gb_some {γ : Type} {b : Int32} {k : Option γ} {r : γ} (h : gb b k = some r) : narrow .boolean (.int b) = .int b ∧ k = some r := by
  unfold gb at h
  split at h
  · rename_i hb
    refine ⟨?_, h⟩
    rcases hb with rfl | rfl <;> rfl
  · cases h
theorem bn_some {α β γ : Type} {m : Option (α × β)} {k : α → β → Option γ} {r : γ} (h : bn m k = some r) : ∃ a b, m = some (a, b) ∧ k a b = some r := by
  unfold bn at h
  split at h
  · exact ⟨_, _, rfl, h⟩
  · cases h
theorem bv_some {α γ : Type} {m : Option α} {k : α → Option γ} {r : γ} (h : bv m k = some r) : ∃ a, m = some a ∧ k a = some r := by
  unfold bv at h
  split at h
  · exact ⟨_, rfl, h⟩
  · cases h
theorem bt_some {α γ : Type} {m : Option (α ⊕ Nat)} {k : α → Option γ} {r : γ} (h : bt m k = some r) : ∃ a, m = some (.inl a) ∧ k a = some r := by
  unfold bt at h
  split at h
  · exact ⟨_, rfl, h⟩
  · cases h
theorem bx_inl {α γ : Type} {m : Option (α ⊕ Nat)} {k : α → Option (γ ⊕ Nat)} {r : γ} (h : bx m k = some (.inl r)) : ∃ a, m = some (.inl a) ∧ k a = some (.inl r) := by
  unfold bx at h
  split at h
  · exact ⟨_, rfl, h⟩
  · cases h
  · cases h
theorem bx_inr {α γ : Type} {m : Option (α ⊕ Nat)} {k : α → Option (γ ⊕ Nat)} {e : Nat} (h : bx m k = some (.inr e)) : m = some (.inr e) ∨ ∃ a, m = some (.inl a) ∧ k a = some (.inr e) := by
  unfold bx at h
  split at h
  · exact Or.inr ⟨_, rfl, h⟩
  · cases h; exact Or.inl rfl
  · cases h
def ml {γ : Type} (m : Option γ) : Option (γ ⊕ Nat) := m.map .inl
theorem ml_inl {γ : Type} {m : Option γ} {r : γ} (h : ml m = some (.inl r)) : m = some r := by
  cases m with
  | none => cases h
  | some a => cases h; rfl
theorem ml_inr {γ : Type} {m : Option γ} {e : Nat} (h : ml m = some (.inr e)) : False := by
  cases m with
  | none => cases h
  | some a => cases h
def mr {σ1 γ : Type} (m : Option γ) : Option (σ1 ⊕ γ) := m.map .inr
theorem mr_some {σ1 γ : Type} {m : Option γ} {t : σ1 ⊕ γ} (h : mr m = some t) : ∃ r, m = some r ∧ t = .inr r := by
  cases m with
  | none => cases h
  | some a => cases h; exact ⟨a, rfl, rfl⟩
theorem ip {c : Prop} {_ : Decidable c} {γ : Type} {a b : Option γ} {t : γ} (hc : c) (h : (if c then a else b) = some t) : a = some t := (if_pos hc).symm.trans h
theorem iq {c : Prop} {_ : Decidable c} {γ : Type} {a b : Option γ} {t : γ} (hc : ¬ c) (h : (if c then a else b) = some t) : b = some t := (if_neg hc).symm.trans h
/-- a loop, n rounds at most -/
def lpn {σ1 ρ : Type} (f : σ1 → Option (σ1 ⊕ ρ)) : Nat → σ1 → Option ρ
  | 0, _ => none
  | n + 1, s => match f s with
    | some (.inl s') => lpn f n s'
    | some (.inr r) => some r
    | none => none
theorem lpn_mono {σ1 ρ : Type} {f : σ1 → Option (σ1 ⊕ ρ)} : ∀ {n : Nat} {s : σ1} {r : ρ}, lpn f n s = some r → ∀ m, n ≤ m → lpn f m s = some r
  | 0, _, _, h, _, _ => by cases h
  | n + 1, s, r, h, m, hm => by
    obtain ⟨m, rfl⟩ : ∃ k, m = k + 1 := ⟨m - 1, by omega⟩
    unfold lpn at h ⊢
    split at h
    · exact lpn_mono h m (by omega)
    · exact h
    · cases h
/-- a loop, as long as it needs; none if it never ends, or fails -/
noncomputable def lp {σ1 ρ : Type} (f : σ1 → Option (σ1 ⊕ ρ)) (s : σ1) : Option ρ := by
  classical
  exact if h : ∃ n r, lpn f n s = some r then some h.choose_spec.choose else none
theorem lp_of {σ1 ρ : Type} {f : σ1 → Option (σ1 ⊕ ρ)} {s : σ1} {r : ρ} {n : Nat} (h : lpn f n s = some r) : lp f s = some r := by
  have hx : ∃ n r, lpn f n s = some r := ⟨n, r, h⟩
  unfold lp
  rw [dif_pos hx]
  have h2 := hx.choose_spec.choose_spec
  have a := lpn_mono h (max n hx.choose) (by omega)
  have b := lpn_mono h2 (max n hx.choose) (by omega)
  rw [a] at b
  exact b.symm
theorem lp_ex {σ1 ρ : Type} {f : σ1 → Option (σ1 ⊕ ρ)} {s : σ1} {r : ρ} (h : lp f s = some r) : ∃ n, lpn f n s = some r := by
  unfold lp at h
  split at h
  · rename_i hx
    cases h
    exact ⟨_, hx.choose_spec.choose_spec⟩
  · cases h
theorem lp_ind {σ1 ρ : Type} {f : σ1 → Option (σ1 ⊕ ρ)} (P : σ1 → Prop) (E : ρ → Prop) {s : σ1} {t : ρ} (h : lp f s = some t) (ht : E t) (step : ∀ s y, f s = some y → Sum.elim P E y → P s) : P s := by
  obtain ⟨n, hn⟩ := lp_ex h
  clear h
  induction n generalizing s with
  | zero => cases hn
  | succ n ih =>
    unfold lpn at hn
    split at hn
    · rename_i e
      exact step s _ e (ih hn)
    · rename_i e
      cases hn
      exact step s _ e ht
    · cases hn
theorem lp_go {σ1 ρ : Type} {f : σ1 → Option (σ1 ⊕ ρ)} {s s' : σ1} (h : f s = some (.inl s')) : lp f s = lp f s' := by
  by_cases hx : ∃ r, lp f s' = some r
  · obtain ⟨r, hr⟩ := hx
    obtain ⟨n, hn⟩ := lp_ex hr
    rw [hr]
    exact lp_of (n := n + 1) (by unfold lpn; rw [h]; exact hn)
  · have h1 : lp f s' = none := by
      cases e : lp f s' with
      | none => rfl
      | some r => exact absurd ⟨r, e⟩ hx
    rw [h1]
    cases e : lp f s with
    | none => rfl
    | some r =>
      obtain ⟨n, hn⟩ := lp_ex e
      cases n with
      | zero => cases hn
      | succ n =>
        unfold lpn at hn
        rw [h] at hn
        exact absurd ⟨r, lp_of hn⟩ hx
theorem lp_end {σ1 ρ : Type} {f : σ1 → Option (σ1 ⊕ ρ)} {s : σ1} {r : ρ} (h : f s = some (.inr r)) : lp f s = some r := lp_of (n := 1) (by unfold lpn; rw [h])
end
section
theorem iw_X0 : ∀ w ∈ u_ws RX0 TX0 3, w ∈ WS := List.forall_mem_cons.mpr ⟨q_43, List.forall_mem_cons.mpr ⟨q_45, List.forall_mem_cons.mpr ⟨q_47, fun _ h => absurd h List.not_mem_nil⟩⟩⟩
theorem iw_X1 : ∀ w ∈ u_ws RX1 TX1 4, w ∈ WS := List.forall_mem_cons.mpr ⟨q_95, List.forall_mem_cons.mpr ⟨q_97, List.forall_mem_cons.mpr ⟨q_99, List.forall_mem_cons.mpr ⟨q_101, fun _ h => absurd h List.not_mem_nil⟩⟩⟩⟩
theorem iw_X2 : ∀ w ∈ u_ws RX2 TX2 2, w ∈ WS := List.forall_mem_cons.mpr ⟨q_77, List.forall_mem_cons.mpr ⟨q_79, fun _ h => absurd h List.not_mem_nil⟩⟩
theorem iw_X3 : ∀ w ∈ u_ws RX3 TX3 1, w ∈ WS := List.forall_mem_cons.mpr ⟨q_64, fun _ h => absurd h List.not_mem_nil⟩
theorem iw_X4 : ∀ w ∈ u_ws RX4 TX4 6, w ∈ WS := List.forall_mem_cons.mpr ⟨q_149, List.forall_mem_cons.mpr ⟨q_151, List.forall_mem_cons.mpr ⟨q_153, List.forall_mem_cons.mpr ⟨q_155, List.forall_mem_cons.mpr ⟨q_157, List.forall_mem_cons.mpr ⟨q_159, fun _ h => absurd h List.not_mem_nil⟩⟩⟩⟩⟩⟩
theorem iw_X5 : ∀ w ∈ u_ws RX5 TX5 7, w ∈ WS := List.forall_mem_cons.mpr ⟨q_120, List.forall_mem_cons.mpr ⟨q_122, List.forall_mem_cons.mpr ⟨q_124, List.forall_mem_cons.mpr ⟨q_126, List.forall_mem_cons.mpr ⟨q_128, List.forall_mem_cons.mpr ⟨q_130, List.forall_mem_cons.mpr ⟨q_132, fun _ h => absurd h List.not_mem_nil⟩⟩⟩⟩⟩⟩⟩
theorem iw_X6 : ∀ w ∈ u_ws RX6 TX6 7, w ∈ WS := List.forall_mem_cons.mpr ⟨q_169, List.forall_mem_cons.mpr ⟨q_171, List.forall_mem_cons.mpr ⟨q_173, List.forall_mem_cons.mpr ⟨q_175, List.forall_mem_cons.mpr ⟨q_177, List.forall_mem_cons.mpr ⟨q_179, List.forall_mem_cons.mpr ⟨q_181, fun _ h => absurd h List.not_mem_nil⟩⟩⟩⟩⟩⟩⟩
theorem iw_X7 : ∀ w ∈ u_ws RX7 TX7 19, w ∈ WS := List.forall_mem_cons.mpr ⟨q_777, List.forall_mem_cons.mpr ⟨q_779, List.forall_mem_cons.mpr ⟨q_781, List.forall_mem_cons.mpr ⟨q_783, List.forall_mem_cons.mpr ⟨q_785, List.forall_mem_cons.mpr ⟨q_787, List.forall_mem_cons.mpr ⟨q_789, List.forall_mem_cons.mpr ⟨q_791, List.forall_mem_cons.mpr ⟨q_793, List.forall_mem_cons.mpr ⟨q_795, List.forall_mem_cons.mpr ⟨q_797, List.forall_mem_cons.mpr ⟨q_799, List.forall_mem_cons.mpr ⟨q_801, List.forall_mem_cons.mpr ⟨q_803, List.forall_mem_cons.mpr ⟨q_805, List.forall_mem_cons.mpr ⟨q_807, List.forall_mem_cons.mpr ⟨q_809, List.forall_mem_cons.mpr ⟨q_811, List.forall_mem_cons.mpr ⟨q_813, fun _ h => absurd h List.not_mem_nil⟩⟩⟩⟩⟩⟩⟩⟩⟩⟩⟩⟩⟩⟩⟩⟩⟩⟩⟩
theorem bool_nar {v : Int32} (h : v = 0 ∨ v = 1) : narrow .boolean (.int v) = .int v := by rcases h with rfl | rfl <;> rfl
theorem bool_fit {v : Int32} (h : v = 0 ∨ v = 1) : fits .boolean (.int v) = true := by rcases h with rfl | rfl <;> rfl
theorem gf_33_1 {x : Cx} {g : Gb} {cc : ByteArray} {nL ce sl pc : Nat} {rm : Room} {lv : List (Nat × Value)} {st : List Value} {σ : WD} (C : CF x g RX0 cc nL rm) (hdg : decode cc pc = .ok (.getfield 9, 3)) (pn : Nat) (hp : pc + 3 = pn) (kk : WW x g nL ce sl pn lv (.int (σ.1 1 0) :: st) σ) : WW x g nL ce sl pc lv (.ref (adr g 1) :: st) σ := x_get C 1 0 (gt_1 g σ) rfl iw_X0 (by decide) q_33 rfl hdg pn hp kk
theorem pf_33_1 {x : Cx} {g : Gb} {cc : ByteArray} {nL ce sl pc : Nat} {rm : Room} {lv : List (Nat × Value)} {st : List Value} {σ : WD} {v : Int32} (C : CF x g RX0 cc nL rm) (hdg : decode cc pc = .ok (.putfield 9, 3)) (pn : Nat) (hp : pc + 3 = pn) (kk : WW x g nL ce sl pn lv st (upi σ 1 0 v)) : WW x g nL ce sl pc lv (.int v :: .ref (adr g 1) :: st) σ := x_put C 1 0 (gt_1 g σ) rfl iw_X0 tyX0 tyX0_ok nmX0 (by decide) q_33 rfl (tyX0_ok 0 (by decide)) rfl rfl (Nat.le_of_ble_eq_true rfl) (st_1_0 g σ v) hdg pn hp kk
theorem gf_33_27 {x : Cx} {g : Gb} {cc : ByteArray} {nL ce sl pc : Nat} {rm : Room} {lv : List (Nat × Value)} {st : List Value} {σ : WD} (C : CF x g RX0 cc nL rm) (hdg : decode cc pc = .ok (.getfield 9, 3)) (pn : Nat) (hp : pc + 3 = pn) (kk : WW x g nL ce sl pn lv (.int (σ.1 27 0) :: st) σ) : WW x g nL ce sl pc lv (.ref (adr g 27) :: st) σ := x_get C 27 0 (gt_27 g σ) rfl iw_X0 (by decide) q_33 rfl hdg pn hp kk
theorem pf_33_27 {x : Cx} {g : Gb} {cc : ByteArray} {nL ce sl pc : Nat} {rm : Room} {lv : List (Nat × Value)} {st : List Value} {σ : WD} {v : Int32} (C : CF x g RX0 cc nL rm) (hdg : decode cc pc = .ok (.putfield 9, 3)) (pn : Nat) (hp : pc + 3 = pn) (kk : WW x g nL ce sl pn lv st (upi σ 27 0 v)) : WW x g nL ce sl pc lv (.int v :: .ref (adr g 27) :: st) σ := x_put C 27 0 (gt_27 g σ) rfl iw_X0 tyX0 tyX0_ok nmX0 (by decide) q_33 rfl (tyX0_ok 0 (by decide)) rfl rfl (Nat.le_of_ble_eq_true rfl) (st_27_0 g σ v) hdg pn hp kk
theorem gf_37_1 {x : Cx} {g : Gb} {cc : ByteArray} {nL ce sl pc : Nat} {rm : Room} {lv : List (Nat × Value)} {st : List Value} {σ : WD} (C : CF x g RX0 cc nL rm) (hdg : decode cc pc = .ok (.getfield 15, 3)) (pn : Nat) (hp : pc + 3 = pn) (kk : WW x g nL ce sl pn lv (.ref (adr g 2) :: st) σ) : WW x g nL ce sl pc lv (.ref (adr g 1) :: st) σ := x_get C 1 1 (gt_1 g σ) rfl iw_X0 (by decide) q_37 rfl hdg pn hp kk
theorem gf_37_27 {x : Cx} {g : Gb} {cc : ByteArray} {nL ce sl pc : Nat} {rm : Room} {lv : List (Nat × Value)} {st : List Value} {σ : WD} (C : CF x g RX0 cc nL rm) (hdg : decode cc pc = .ok (.getfield 15, 3)) (pn : Nat) (hp : pc + 3 = pn) (kk : WW x g nL ce sl pn lv (.ref (adr g 28) :: st) σ) : WW x g nL ce sl pc lv (.ref (adr g 27) :: st) σ := x_get C 27 1 (gt_27 g σ) rfl iw_X0 (by decide) q_37 rfl hdg pn hp kk
theorem gf_41_1 {x : Cx} {g : Gb} {cc : ByteArray} {nL ce sl pc : Nat} {rm : Room} {lv : List (Nat × Value)} {st : List Value} {σ : WD} (C : CF x g RX0 cc nL rm) (hdg : decode cc pc = .ok (.getfield 19, 3)) (pn : Nat) (hp : pc + 3 = pn) (kk : WW x g nL ce sl pn lv (.int (σ.1 1 2) :: st) σ) : WW x g nL ce sl pc lv (.ref (adr g 1) :: st) σ := x_get C 1 2 (gt_1 g σ) rfl iw_X0 (by decide) q_41 rfl hdg pn hp kk
theorem pf_41_1 {x : Cx} {g : Gb} {cc : ByteArray} {nL ce sl pc : Nat} {rm : Room} {lv : List (Nat × Value)} {st : List Value} {σ : WD} {v : Int32} (C : CF x g RX0 cc nL rm) (hdg : decode cc pc = .ok (.putfield 19, 3)) (pn : Nat) (hp : pc + 3 = pn) (kk : WW x g nL ce sl pn lv st (upi σ 1 2 v)) : WW x g nL ce sl pc lv (.int v :: .ref (adr g 1) :: st) σ := x_put C 1 2 (gt_1 g σ) rfl iw_X0 tyX0 tyX0_ok nmX0 (by decide) q_41 rfl (tyX0_ok 2 (by decide)) rfl rfl (Nat.le_of_ble_eq_true rfl) (st_1_2 g σ v) hdg pn hp kk
theorem gf_41_27 {x : Cx} {g : Gb} {cc : ByteArray} {nL ce sl pc : Nat} {rm : Room} {lv : List (Nat × Value)} {st : List Value} {σ : WD} (C : CF x g RX0 cc nL rm) (hdg : decode cc pc = .ok (.getfield 19, 3)) (pn : Nat) (hp : pc + 3 = pn) (kk : WW x g nL ce sl pn lv (.int (σ.1 27 2) :: st) σ) : WW x g nL ce sl pc lv (.ref (adr g 27) :: st) σ := x_get C 27 2 (gt_27 g σ) rfl iw_X0 (by decide) q_41 rfl hdg pn hp kk
theorem pf_41_27 {x : Cx} {g : Gb} {cc : ByteArray} {nL ce sl pc : Nat} {rm : Room} {lv : List (Nat × Value)} {st : List Value} {σ : WD} {v : Int32} (C : CF x g RX0 cc nL rm) (hdg : decode cc pc = .ok (.putfield 19, 3)) (pn : Nat) (hp : pc + 3 = pn) (kk : WW x g nL ce sl pn lv st (upi σ 27 2 v)) : WW x g nL ce sl pc lv (.int v :: .ref (adr g 27) :: st) σ := x_put C 27 2 (gt_27 g σ) rfl iw_X0 tyX0 tyX0_ok nmX0 (by decide) q_41 rfl (tyX0_ok 2 (by decide)) rfl rfl (Nat.le_of_ble_eq_true rfl) (st_27_2 g σ v) hdg pn hp kk
theorem gf_60_3 {x : Cx} {g : Gb} {cc : ByteArray} {nL ce sl pc : Nat} {rm : Room} {lv : List (Nat × Value)} {st : List Value} {σ : WD} (C : CF x g RX3 cc nL rm) (hdg : decode cc pc = .ok (.getfield 9, 3)) (pn : Nat) (hp : pc + 3 = pn) (kk : WW x g nL ce sl pn lv (.ref (adr g 4) :: st) σ) : WW x g nL ce sl pc lv (.ref (adr g 3) :: st) σ := x_get C 3 0 (gt_3 g σ) rfl iw_X3 (by decide) q_60 rfl hdg pn hp kk
theorem gf_60_25 {x : Cx} {g : Gb} {cc : ByteArray} {nL ce sl pc : Nat} {rm : Room} {lv : List (Nat × Value)} {st : List Value} {σ : WD} (C : CF x g RX3 cc nL rm) (hdg : decode cc pc = .ok (.getfield 9, 3)) (pn : Nat) (hp : pc + 3 = pn) (kk : WW x g nL ce sl pn lv (.ref (adr g 26) :: st) σ) : WW x g nL ce sl pc lv (.ref (adr g 25) :: st) σ := x_get C 25 0 (gt_25 g σ) rfl iw_X3 (by decide) q_60 rfl hdg pn hp kk
theorem gf_73_5 {x : Cx} {g : Gb} {cc : ByteArray} {nL ce sl pc : Nat} {rm : Room} {lv : List (Nat × Value)} {st : List Value} {σ : WD} (C : CF x g RX2 cc nL rm) (hdg : decode cc pc = .ok (.getfield 9, 3)) (pn : Nat) (hp : pc + 3 = pn) (kk : WW x g nL ce sl pn lv (.ref (adr g 6) :: st) σ) : WW x g nL ce sl pc lv (.ref (adr g 5) :: st) σ := x_get C 5 0 (gt_5 g σ) rfl iw_X2 (by decide) q_73 rfl hdg pn hp kk
theorem gf_75_5 {x : Cx} {g : Gb} {cc : ByteArray} {nL ce sl pc : Nat} {rm : Room} {lv : List (Nat × Value)} {st : List Value} {σ : WD} (C : CF x g RX2 cc nL rm) (hdg : decode cc pc = .ok (.getfield 15, 3)) (pn : Nat) (hp : pc + 3 = pn) (kk : WW x g nL ce sl pn lv (.int (σ.1 5 1) :: st) σ) : WW x g nL ce sl pc lv (.ref (adr g 5) :: st) σ := x_get C 5 1 (gt_5 g σ) rfl iw_X2 (by decide) q_75 rfl hdg pn hp kk
theorem pf_75_5 {x : Cx} {g : Gb} {cc : ByteArray} {nL ce sl pc : Nat} {rm : Room} {lv : List (Nat × Value)} {st : List Value} {σ : WD} {v : Int32} (C : CF x g RX2 cc nL rm) (hdg : decode cc pc = .ok (.putfield 15, 3)) (pn : Nat) (hp : pc + 3 = pn) (kk : WW x g nL ce sl pn lv st (upi σ 5 1 v)) : WW x g nL ce sl pc lv (.int v :: .ref (adr g 5) :: st) σ := x_put C 5 1 (gt_5 g σ) rfl iw_X2 tyX2 tyX2_ok nmX2 (by decide) q_75 rfl (tyX2_ok 1 (by decide)) rfl rfl (Nat.le_of_ble_eq_true rfl) (st_5_1 g σ v) hdg pn hp kk
theorem gf_90_7 {x : Cx} {g : Gb} {cc : ByteArray} {nL ce sl pc : Nat} {rm : Room} {lv : List (Nat × Value)} {st : List Value} {σ : WD} (C : CF x g RX1 cc nL rm) (hdg : decode cc pc = .ok (.getfield 11, 3)) (pn : Nat) (hp : pc + 3 = pn) (kk : WW x g nL ce sl pn lv (.ref (adr g 8) :: st) σ) : WW x g nL ce sl pc lv (.ref (adr g 7) :: st) σ := x_get C 7 0 (gt_7 g σ) rfl iw_X1 (by decide) q_90 rfl hdg pn hp kk
theorem gf_91_7 {x : Cx} {g : Gb} {cc : ByteArray} {nL ce sl pc : Nat} {rm : Room} {lv : List (Nat × Value)} {st : List Value} {σ : WD} (C : CF x g RX1 cc nL rm) (hdg : decode cc pc = .ok (.getfield 16, 3)) (pn : Nat) (hp : pc + 3 = pn) (kk : WW x g nL ce sl pn lv (.ref (adr g 13) :: st) σ) : WW x g nL ce sl pc lv (.ref (adr g 7) :: st) σ := x_get C 7 1 (gt_7 g σ) rfl iw_X1 (by decide) q_91 rfl hdg pn hp kk
theorem gf_92_7 {x : Cx} {g : Gb} {cc : ByteArray} {nL ce sl pc : Nat} {rm : Room} {lv : List (Nat × Value)} {st : List Value} {σ : WD} (C : CF x g RX1 cc nL rm) (hdg : decode cc pc = .ok (.getfield 19, 3)) (pn : Nat) (hp : pc + 3 = pn) (kk : WW x g nL ce sl pn lv (.int (σ.1 7 2) :: st) σ) : WW x g nL ce sl pc lv (.ref (adr g 7) :: st) σ := x_get C 7 2 (gt_7 g σ) rfl iw_X1 (by decide) q_92 rfl hdg pn hp kk
theorem pf_92_7 {x : Cx} {g : Gb} {cc : ByteArray} {nL ce sl pc : Nat} {rm : Room} {lv : List (Nat × Value)} {st : List Value} {σ : WD} {v : Int32} (C : CF x g RX1 cc nL rm) (hdg : decode cc pc = .ok (.putfield 19, 3)) (pn : Nat) (hp : pc + 3 = pn) (kk : WW x g nL ce sl pn lv st (upi σ 7 2 v)) : WW x g nL ce sl pc lv (.int v :: .ref (adr g 7) :: st) σ := x_put C 7 2 (gt_7 g σ) rfl iw_X1 tyX1 tyX1_ok nmX1 (by decide) q_92 rfl (tyX1_ok 2 (by decide)) rfl rfl (Nat.le_of_ble_eq_true rfl) (st_7_2 g σ v) hdg pn hp kk
theorem gf_93_7 {x : Cx} {g : Gb} {cc : ByteArray} {nL ce sl pc : Nat} {rm : Room} {lv : List (Nat × Value)} {st : List Value} {σ : WD} (C : CF x g RX1 cc nL rm) (hdg : decode cc pc = .ok (.getfield 23, 3)) (pn : Nat) (hp : pc + 3 = pn) (kk : WW x g nL ce sl pn lv (.int (σ.1 7 3) :: st) σ) : WW x g nL ce sl pc lv (.ref (adr g 7) :: st) σ := x_get C 7 3 (gt_7 g σ) rfl iw_X1 (by decide) q_93 rfl hdg pn hp kk
theorem pf_93_7 {x : Cx} {g : Gb} {cc : ByteArray} {nL ce sl pc : Nat} {rm : Room} {lv : List (Nat × Value)} {st : List Value} {σ : WD} {v : Int32} (C : CF x g RX1 cc nL rm) (hdg : decode cc pc = .ok (.putfield 23, 3)) (pn : Nat) (hp : pc + 3 = pn) (kk : WW x g nL ce sl pn lv st (upi σ 7 3 v)) : WW x g nL ce sl pc lv (.int v :: .ref (adr g 7) :: st) σ := x_put C 7 3 (gt_7 g σ) rfl iw_X1 tyX1 tyX1_ok nmX1 (by decide) q_93 rfl (tyX1_ok 3 (by decide)) rfl rfl (Nat.le_of_ble_eq_true rfl) (st_7_3 g σ v) hdg pn hp kk
theorem gf_110_18 {x : Cx} {g : Gb} {cc : ByteArray} {nL ce sl pc : Nat} {rm : Room} {lv : List (Nat × Value)} {st : List Value} {σ : WD} (C : CF x g RX5 cc nL rm) (hdg : decode cc pc = .ok (.getfield 28, 3)) (pn : Nat) (hp : pc + 3 = pn) (kk : WW x g nL ce sl pn lv (.ref (adr g 1) :: st) σ) : WW x g nL ce sl pc lv (.ref (adr g 18) :: st) σ := x_get C 18 0 (gt_18 g σ) rfl iw_X5 (by decide) q_110 rfl hdg pn hp kk
theorem gf_111_18 {x : Cx} {g : Gb} {cc : ByteArray} {nL ce sl pc : Nat} {rm : Room} {lv : List (Nat × Value)} {st : List Value} {σ : WD} (C : CF x g RX5 cc nL rm) (hdg : decode cc pc = .ok (.getfield 32, 3)) (pn : Nat) (hp : pc + 3 = pn) (kk : WW x g nL ce sl pn lv (.ref (adr g 3) :: st) σ) : WW x g nL ce sl pc lv (.ref (adr g 18) :: st) σ := x_get C 18 1 (gt_18 g σ) rfl iw_X5 (by decide) q_111 rfl hdg pn hp kk
theorem gf_112_18 {x : Cx} {g : Gb} {cc : ByteArray} {nL ce sl pc : Nat} {rm : Room} {lv : List (Nat × Value)} {st : List Value} {σ : WD} (C : CF x g RX5 cc nL rm) (hdg : decode cc pc = .ok (.getfield 9, 3)) (pn : Nat) (hp : pc + 3 = pn) (kk : WW x g nL ce sl pn lv (.ref (adr g 19) :: st) σ) : WW x g nL ce sl pc lv (.ref (adr g 18) :: st) σ := x_get C 18 2 (gt_18 g σ) rfl iw_X5 (by decide) q_112 rfl hdg pn hp kk
theorem gf_113_18 {x : Cx} {g : Gb} {cc : ByteArray} {nL ce sl pc : Nat} {rm : Room} {lv : List (Nat × Value)} {st : List Value} {σ : WD} (C : CF x g RX5 cc nL rm) (hdg : decode cc pc = .ok (.getfield 15, 3)) (pn : Nat) (hp : pc + 3 = pn) (kk : WW x g nL ce sl pn lv (.ref (adr g 20) :: st) σ) : WW x g nL ce sl pc lv (.ref (adr g 18) :: st) σ := x_get C 18 3 (gt_18 g σ) rfl iw_X5 (by decide) q_113 rfl hdg pn hp kk
theorem gf_114_18 {x : Cx} {g : Gb} {cc : ByteArray} {nL ce sl pc : Nat} {rm : Room} {lv : List (Nat × Value)} {st : List Value} {σ : WD} (C : CF x g RX5 cc nL rm) (hdg : decode cc pc = .ok (.getfield 18, 3)) (pn : Nat) (hp : pc + 3 = pn) (kk : WW x g nL ce sl pn lv (.ref (adr g 21) :: st) σ) : WW x g nL ce sl pc lv (.ref (adr g 18) :: st) σ := x_get C 18 4 (gt_18 g σ) rfl iw_X5 (by decide) q_114 rfl hdg pn hp kk
theorem gf_116_18 {x : Cx} {g : Gb} {cc : ByteArray} {nL ce sl pc : Nat} {rm : Room} {lv : List (Nat × Value)} {st : List Value} {σ : WD} (C : CF x g RX5 cc nL rm) (hdg : decode cc pc = .ok (.getfield 21, 3)) (pn : Nat) (hp : pc + 3 = pn) (kk : WW x g nL ce sl pn lv (.int (σ.1 18 5) :: st) σ) : WW x g nL ce sl pc lv (.ref (adr g 18) :: st) σ := x_get C 18 5 (gt_18 g σ) rfl iw_X5 (by decide) q_116 rfl hdg pn hp kk
theorem pf_116_18 {x : Cx} {g : Gb} {cc : ByteArray} {nL ce sl pc : Nat} {rm : Room} {lv : List (Nat × Value)} {st : List Value} {σ : WD} {v : Int32} (C : CF x g RX5 cc nL rm) (hdg : decode cc pc = .ok (.putfield 21, 3)) (pn : Nat) (hp : pc + 3 = pn) (kk : WW x g nL ce sl pn lv st (upi σ 18 5 v)) : WW x g nL ce sl pc lv (.int v :: .ref (adr g 18) :: st) σ := x_put C 18 5 (gt_18 g σ) rfl iw_X5 tyX5 tyX5_ok nmX5 (by decide) q_116 rfl (tyX5_ok 5 (by decide)) rfl rfl (Nat.le_of_ble_eq_true rfl) (st_18_5 g σ v) hdg pn hp kk
theorem gf_118_18 {x : Cx} {g : Gb} {cc : ByteArray} {nL ce sl pc : Nat} {rm : Room} {lv : List (Nat × Value)} {st : List Value} {σ : WD} (C : CF x g RX5 cc nL rm) (hdg : decode cc pc = .ok (.getfield 25, 3)) (pn : Nat) (hp : pc + 3 = pn) (kk : WW x g nL ce sl pn lv (.int (σ.1 18 6) :: st) σ) : WW x g nL ce sl pc lv (.ref (adr g 18) :: st) σ := x_get C 18 6 (gt_18 g σ) rfl iw_X5 (by decide) q_118 rfl hdg pn hp kk
theorem pf_118_18 {x : Cx} {g : Gb} {cc : ByteArray} {nL ce sl pc : Nat} {rm : Room} {lv : List (Nat × Value)} {st : List Value} {σ : WD} {v : Int32} (C : CF x g RX5 cc nL rm) (hdg : decode cc pc = .ok (.putfield 25, 3)) (pn : Nat) (hp : pc + 3 = pn) (kk : WW x g nL ce sl pn lv st (upi σ 18 6 v)) : WW x g nL ce sl pc lv (.int v :: .ref (adr g 18) :: st) σ := x_put C 18 6 (gt_18 g σ) rfl iw_X5 tyX5 tyX5_ok nmX5 (by decide) q_118 rfl (tyX5_ok 6 (by decide)) rfl rfl (Nat.le_of_ble_eq_true rfl) (st_18_6 g σ v) hdg pn hp kk
theorem gf_143_22 {x : Cx} {g : Gb} {cc : ByteArray} {nL ce sl pc : Nat} {rm : Room} {lv : List (Nat × Value)} {st : List Value} {σ : WD} (C : CF x g RX4 cc nL rm) (hdg : decode cc pc = .ok (.getfield 33, 3)) (pn : Nat) (hp : pc + 3 = pn) (kk : WW x g nL ce sl pn lv (.ref (adr g 1) :: st) σ) : WW x g nL ce sl pc lv (.ref (adr g 22) :: st) σ := x_get C 22 0 (gt_22 g σ) rfl iw_X4 (by decide) q_143 rfl hdg pn hp kk
theorem gf_144_22 {x : Cx} {g : Gb} {cc : ByteArray} {nL ce sl pc : Nat} {rm : Room} {lv : List (Nat × Value)} {st : List Value} {σ : WD} (C : CF x g RX4 cc nL rm) (hdg : decode cc pc = .ok (.getfield 9, 3)) (pn : Nat) (hp : pc + 3 = pn) (kk : WW x g nL ce sl pn lv (.ref (adr g 23) :: st) σ) : WW x g nL ce sl pc lv (.ref (adr g 22) :: st) σ := x_get C 22 1 (gt_22 g σ) rfl iw_X4 (by decide) q_144 rfl hdg pn hp kk
theorem gf_145_22 {x : Cx} {g : Gb} {cc : ByteArray} {nL ce sl pc : Nat} {rm : Room} {lv : List (Nat × Value)} {st : List Value} {σ : WD} (C : CF x g RX4 cc nL rm) (hdg : decode cc pc = .ok (.getfield 15, 3)) (pn : Nat) (hp : pc + 3 = pn) (kk : WW x g nL ce sl pn lv (.ref (adr g 24) :: st) σ) : WW x g nL ce sl pc lv (.ref (adr g 22) :: st) σ := x_get C 22 2 (gt_22 g σ) rfl iw_X4 (by decide) q_145 rfl hdg pn hp kk
theorem gf_146_22 {x : Cx} {g : Gb} {cc : ByteArray} {nL ce sl pc : Nat} {rm : Room} {lv : List (Nat × Value)} {st : List Value} {σ : WD} (C : CF x g RX4 cc nL rm) (hdg : decode cc pc = .ok (.getfield 21, 3)) (pn : Nat) (hp : pc + 3 = pn) (kk : WW x g nL ce sl pn lv (.ref (adr g 25) :: st) σ) : WW x g nL ce sl pc lv (.ref (adr g 22) :: st) σ := x_get C 22 3 (gt_22 g σ) rfl iw_X4 (by decide) q_146 rfl hdg pn hp kk
theorem gf_147_22 {x : Cx} {g : Gb} {cc : ByteArray} {nL ce sl pc : Nat} {rm : Room} {lv : List (Nat × Value)} {st : List Value} {σ : WD} (C : CF x g RX4 cc nL rm) (hdg : decode cc pc = .ok (.getfield 25, 3)) (pn : Nat) (hp : pc + 3 = pn) (kk : WW x g nL ce sl pn lv (.int (σ.1 22 4) :: st) σ) : WW x g nL ce sl pc lv (.ref (adr g 22) :: st) σ := x_get C 22 4 (gt_22 g σ) rfl iw_X4 (by decide) q_147 rfl hdg pn hp kk
theorem pf_147_22 {x : Cx} {g : Gb} {cc : ByteArray} {nL ce sl pc : Nat} {rm : Room} {lv : List (Nat × Value)} {st : List Value} {σ : WD} {v : Int32} (C : CF x g RX4 cc nL rm) (hn : v = 0 ∨ v = 1) (hdg : decode cc pc = .ok (.putfield 25, 3)) (pn : Nat) (hp : pc + 3 = pn) (kk : WW x g nL ce sl pn lv st (upi σ 22 4 v)) : WW x g nL ce sl pc lv (.int v :: .ref (adr g 22) :: st) σ := x_put C 22 4 (gt_22 g σ) rfl iw_X4 tyX4 tyX4_ok nmX4 (by decide) q_147 rfl (tyX4_ok 4 (by decide)) (bool_nar hn) (bool_fit hn) (Nat.le_of_ble_eq_true rfl) (st_22_4 g σ v) hdg pn hp kk
theorem gf_148_22 {x : Cx} {g : Gb} {cc : ByteArray} {nL ce sl pc : Nat} {rm : Room} {lv : List (Nat × Value)} {st : List Value} {σ : WD} (C : CF x g RX4 cc nL rm) (hdg : decode cc pc = .ok (.getfield 29, 3)) (pn : Nat) (hp : pc + 3 = pn) (kk : WW x g nL ce sl pn lv (.int (σ.1 22 5) :: st) σ) : WW x g nL ce sl pc lv (.ref (adr g 22) :: st) σ := x_get C 22 5 (gt_22 g σ) rfl iw_X4 (by decide) q_148 rfl hdg pn hp kk
theorem pf_148_22 {x : Cx} {g : Gb} {cc : ByteArray} {nL ce sl pc : Nat} {rm : Room} {lv : List (Nat × Value)} {st : List Value} {σ : WD} {v : Int32} (C : CF x g RX4 cc nL rm) (hdg : decode cc pc = .ok (.putfield 29, 3)) (pn : Nat) (hp : pc + 3 = pn) (kk : WW x g nL ce sl pn lv st (upi σ 22 5 v)) : WW x g nL ce sl pc lv (.int v :: .ref (adr g 22) :: st) σ := x_put C 22 5 (gt_22 g σ) rfl iw_X4 tyX4 tyX4_ok nmX4 (by decide) q_148 rfl (tyX4_ok 5 (by decide)) rfl rfl (Nat.le_of_ble_eq_true rfl) (st_22_5 g σ v) hdg pn hp kk
theorem gf_162_0 {x : Cx} {g : Gb} {cc : ByteArray} {nL ce sl pc : Nat} {rm : Room} {lv : List (Nat × Value)} {st : List Value} {σ : WD} (C : CF x g RX6 cc nL rm) (hdg : decode cc pc = .ok (.getfield 12, 3)) (pn : Nat) (hp : pc + 3 = pn) (kk : WW x g nL ce sl pn lv (.ref (adr g 1) :: st) σ) : WW x g nL ce sl pc lv (.ref (adr g 0) :: st) σ := x_get C 0 0 (gt_0 g σ) rfl iw_X6 (by decide) q_162 rfl hdg pn hp kk
theorem gf_163_0 {x : Cx} {g : Gb} {cc : ByteArray} {nL ce sl pc : Nat} {rm : Room} {lv : List (Nat × Value)} {st : List Value} {σ : WD} (C : CF x g RX6 cc nL rm) (hdg : decode cc pc = .ok (.getfield 19, 3)) (pn : Nat) (hp : pc + 3 = pn) (kk : WW x g nL ce sl pn lv (.ref (adr g 3) :: st) σ) : WW x g nL ce sl pc lv (.ref (adr g 0) :: st) σ := x_get C 0 1 (gt_0 g σ) rfl iw_X6 (by decide) q_163 rfl hdg pn hp kk
theorem gf_164_0 {x : Cx} {g : Gb} {cc : ByteArray} {nL ce sl pc : Nat} {rm : Room} {lv : List (Nat × Value)} {st : List Value} {σ : WD} (C : CF x g RX6 cc nL rm) (hdg : decode cc pc = .ok (.getfield 26, 3)) (pn : Nat) (hp : pc + 3 = pn) (kk : WW x g nL ce sl pn lv (.ref (adr g 5) :: st) σ) : WW x g nL ce sl pc lv (.ref (adr g 0) :: st) σ := x_get C 0 2 (gt_0 g σ) rfl iw_X6 (by decide) q_164 rfl hdg pn hp kk
theorem gf_165_0 {x : Cx} {g : Gb} {cc : ByteArray} {nL ce sl pc : Nat} {rm : Room} {lv : List (Nat × Value)} {st : List Value} {σ : WD} (C : CF x g RX6 cc nL rm) (hdg : decode cc pc = .ok (.getfield 33, 3)) (pn : Nat) (hp : pc + 3 = pn) (kk : WW x g nL ce sl pn lv (.ref (adr g 7) :: st) σ) : WW x g nL ce sl pc lv (.ref (adr g 0) :: st) σ := x_get C 0 3 (gt_0 g σ) rfl iw_X6 (by decide) q_165 rfl hdg pn hp kk
theorem gf_166_0 {x : Cx} {g : Gb} {cc : ByteArray} {nL ce sl pc : Nat} {rm : Room} {lv : List (Nat × Value)} {st : List Value} {σ : WD} (C : CF x g RX6 cc nL rm) (hdg : decode cc pc = .ok (.getfield 42, 3)) (pn : Nat) (hp : pc + 3 = pn) (kk : WW x g nL ce sl pn lv (.ref (adr g 18) :: st) σ) : WW x g nL ce sl pc lv (.ref (adr g 0) :: st) σ := x_get C 0 4 (gt_0 g σ) rfl iw_X6 (by decide) q_166 rfl hdg pn hp kk
theorem gf_167_0 {x : Cx} {g : Gb} {cc : ByteArray} {nL ce sl pc : Nat} {rm : Room} {lv : List (Nat × Value)} {st : List Value} {σ : WD} (C : CF x g RX6 cc nL rm) (hdg : decode cc pc = .ok (.getfield 51, 3)) (pn : Nat) (hp : pc + 3 = pn) (kk : WW x g nL ce sl pn lv (.ref (adr g 22) :: st) σ) : WW x g nL ce sl pc lv (.ref (adr g 0) :: st) σ := x_get C 0 5 (gt_0 g σ) rfl iw_X6 (by decide) q_167 rfl hdg pn hp kk
theorem gf_168_0 {x : Cx} {g : Gb} {cc : ByteArray} {nL ce sl pc : Nat} {rm : Room} {lv : List (Nat × Value)} {st : List Value} {σ : WD} (C : CF x g RX6 cc nL rm) (hdg : decode cc pc = .ok (.getfield 55, 3)) (pn : Nat) (hp : pc + 3 = pn) (kk : WW x g nL ce sl pn lv (.ref (adr g 27) :: st) σ) : WW x g nL ce sl pc lv (.ref (adr g 0) :: st) σ := x_get C 0 6 (gt_0 g σ) rfl iw_X6 (by decide) q_168 rfl hdg pn hp kk
theorem gf_758_29 {x : Cx} {g : Gb} {cc : ByteArray} {nL ce sl pc : Nat} {rm : Room} {lv : List (Nat × Value)} {st : List Value} {σ : WD} (C : CF x g RX7 cc nL rm) (hdg : decode cc pc = .ok (.getfield 47, 3)) (pn : Nat) (hp : pc + 3 = pn) (kk : WW x g nL ce sl pn lv (.int (σ.1 29 0) :: st) σ) : WW x g nL ce sl pc lv (.ref (adr g 29) :: st) σ := x_get C 29 0 (gt_29 g σ) rfl iw_X7 (by decide) q_758 rfl hdg pn hp kk
theorem pf_758_29 {x : Cx} {g : Gb} {cc : ByteArray} {nL ce sl pc : Nat} {rm : Room} {lv : List (Nat × Value)} {st : List Value} {σ : WD} {v : Int32} (C : CF x g RX7 cc nL rm) (hdg : decode cc pc = .ok (.putfield 47, 3)) (pn : Nat) (hp : pc + 3 = pn) (kk : WW x g nL ce sl pn lv st (upi σ 29 0 v)) : WW x g nL ce sl pc lv (.int v :: .ref (adr g 29) :: st) σ := x_put C 29 0 (gt_29 g σ) rfl iw_X7 tyX7 tyX7_ok nmX7 (by decide) q_758 rfl (tyX7_ok 0 (by decide)) rfl rfl (Nat.le_of_ble_eq_true rfl) (st_29_0 g σ v) hdg pn hp kk
theorem gf_759_29 {x : Cx} {g : Gb} {cc : ByteArray} {nL ce sl pc : Nat} {rm : Room} {lv : List (Nat × Value)} {st : List Value} {σ : WD} (C : CF x g RX7 cc nL rm) (hdg : decode cc pc = .ok (.getfield 7, 3)) (pn : Nat) (hp : pc + 3 = pn) (kk : WW x g nL ce sl pn lv (.int (σ.1 29 1) :: st) σ) : WW x g nL ce sl pc lv (.ref (adr g 29) :: st) σ := x_get C 29 1 (gt_29 g σ) rfl iw_X7 (by decide) q_759 rfl hdg pn hp kk
theorem pf_759_29 {x : Cx} {g : Gb} {cc : ByteArray} {nL ce sl pc : Nat} {rm : Room} {lv : List (Nat × Value)} {st : List Value} {σ : WD} {v : Int32} (C : CF x g RX7 cc nL rm) (hdg : decode cc pc = .ok (.putfield 7, 3)) (pn : Nat) (hp : pc + 3 = pn) (kk : WW x g nL ce sl pn lv st (upi σ 29 1 v)) : WW x g nL ce sl pc lv (.int v :: .ref (adr g 29) :: st) σ := x_put C 29 1 (gt_29 g σ) rfl iw_X7 tyX7 tyX7_ok nmX7 (by decide) q_759 rfl (tyX7_ok 1 (by decide)) rfl rfl (Nat.le_of_ble_eq_true rfl) (st_29_1 g σ v) hdg pn hp kk
theorem gf_760_29 {x : Cx} {g : Gb} {cc : ByteArray} {nL ce sl pc : Nat} {rm : Room} {lv : List (Nat × Value)} {st : List Value} {σ : WD} (C : CF x g RX7 cc nL rm) (hdg : decode cc pc = .ok (.getfield 13, 3)) (pn : Nat) (hp : pc + 3 = pn) (kk : WW x g nL ce sl pn lv (.ref (adr g 30) :: st) σ) : WW x g nL ce sl pc lv (.ref (adr g 29) :: st) σ := x_get C 29 2 (gt_29 g σ) rfl iw_X7 (by decide) q_760 rfl hdg pn hp kk
theorem gf_761_29 {x : Cx} {g : Gb} {cc : ByteArray} {nL ce sl pc : Nat} {rm : Room} {lv : List (Nat × Value)} {st : List Value} {σ : WD} (C : CF x g RX7 cc nL rm) (hdg : decode cc pc = .ok (.getfield 17, 3)) (pn : Nat) (hp : pc + 3 = pn) (kk : WW x g nL ce sl pn lv (.ref (adr g 31) :: st) σ) : WW x g nL ce sl pc lv (.ref (adr g 29) :: st) σ := x_get C 29 3 (gt_29 g σ) rfl iw_X7 (by decide) q_761 rfl hdg pn hp kk
theorem gf_762_29 {x : Cx} {g : Gb} {cc : ByteArray} {nL ce sl pc : Nat} {rm : Room} {lv : List (Nat × Value)} {st : List Value} {σ : WD} (C : CF x g RX7 cc nL rm) (hdg : decode cc pc = .ok (.getfield 54, 3)) (pn : Nat) (hp : pc + 3 = pn) (kk : WW x g nL ce sl pn lv (.int (σ.1 29 4) :: st) σ) : WW x g nL ce sl pc lv (.ref (adr g 29) :: st) σ := x_get C 29 4 (gt_29 g σ) rfl iw_X7 (by decide) q_762 rfl hdg pn hp kk
theorem pf_762_29 {x : Cx} {g : Gb} {cc : ByteArray} {nL ce sl pc : Nat} {rm : Room} {lv : List (Nat × Value)} {st : List Value} {σ : WD} {v : Int32} (C : CF x g RX7 cc nL rm) (hdg : decode cc pc = .ok (.putfield 54, 3)) (pn : Nat) (hp : pc + 3 = pn) (kk : WW x g nL ce sl pn lv st (upi σ 29 4 v)) : WW x g nL ce sl pc lv (.int v :: .ref (adr g 29) :: st) σ := x_put C 29 4 (gt_29 g σ) rfl iw_X7 tyX7 tyX7_ok nmX7 (by decide) q_762 rfl (tyX7_ok 4 (by decide)) rfl rfl (Nat.le_of_ble_eq_true rfl) (st_29_4 g σ v) hdg pn hp kk
theorem gf_763_29 {x : Cx} {g : Gb} {cc : ByteArray} {nL ce sl pc : Nat} {rm : Room} {lv : List (Nat × Value)} {st : List Value} {σ : WD} (C : CF x g RX7 cc nL rm) (hdg : decode cc pc = .ok (.getfield 20, 3)) (pn : Nat) (hp : pc + 3 = pn) (kk : WW x g nL ce sl pn lv (.ref (adr g 32) :: st) σ) : WW x g nL ce sl pc lv (.ref (adr g 29) :: st) σ := x_get C 29 5 (gt_29 g σ) rfl iw_X7 (by decide) q_763 rfl hdg pn hp kk
theorem gf_764_29 {x : Cx} {g : Gb} {cc : ByteArray} {nL ce sl pc : Nat} {rm : Room} {lv : List (Nat × Value)} {st : List Value} {σ : WD} (C : CF x g RX7 cc nL rm) (hdg : decode cc pc = .ok (.getfield 118, 3)) (pn : Nat) (hp : pc + 3 = pn) (kk : WW x g nL ce sl pn lv (.int (σ.1 29 6) :: st) σ) : WW x g nL ce sl pc lv (.ref (adr g 29) :: st) σ := x_get C 29 6 (gt_29 g σ) rfl iw_X7 (by decide) q_764 rfl hdg pn hp kk
theorem pf_764_29 {x : Cx} {g : Gb} {cc : ByteArray} {nL ce sl pc : Nat} {rm : Room} {lv : List (Nat × Value)} {st : List Value} {σ : WD} {v : Int32} (C : CF x g RX7 cc nL rm) (hdg : decode cc pc = .ok (.putfield 118, 3)) (pn : Nat) (hp : pc + 3 = pn) (kk : WW x g nL ce sl pn lv st (upi σ 29 6 v)) : WW x g nL ce sl pc lv (.int v :: .ref (adr g 29) :: st) σ := x_put C 29 6 (gt_29 g σ) rfl iw_X7 tyX7 tyX7_ok nmX7 (by decide) q_764 rfl (tyX7_ok 6 (by decide)) rfl rfl (Nat.le_of_ble_eq_true rfl) (st_29_6 g σ v) hdg pn hp kk
theorem gf_765_29 {x : Cx} {g : Gb} {cc : ByteArray} {nL ce sl pc : Nat} {rm : Room} {lv : List (Nat × Value)} {st : List Value} {σ : WD} (C : CF x g RX7 cc nL rm) (hdg : decode cc pc = .ok (.getfield 23, 3)) (pn : Nat) (hp : pc + 3 = pn) (kk : WW x g nL ce sl pn lv (.ref (adr g 33) :: st) σ) : WW x g nL ce sl pc lv (.ref (adr g 29) :: st) σ := x_get C 29 7 (gt_29 g σ) rfl iw_X7 (by decide) q_765 rfl hdg pn hp kk
theorem gf_766_29 {x : Cx} {g : Gb} {cc : ByteArray} {nL ce sl pc : Nat} {rm : Room} {lv : List (Nat × Value)} {st : List Value} {σ : WD} (C : CF x g RX7 cc nL rm) (hdg : decode cc pc = .ok (.getfield 26, 3)) (pn : Nat) (hp : pc + 3 = pn) (kk : WW x g nL ce sl pn lv (.ref (adr g 34) :: st) σ) : WW x g nL ce sl pc lv (.ref (adr g 29) :: st) σ := x_get C 29 8 (gt_29 g σ) rfl iw_X7 (by decide) q_766 rfl hdg pn hp kk
theorem gf_767_29 {x : Cx} {g : Gb} {cc : ByteArray} {nL ce sl pc : Nat} {rm : Room} {lv : List (Nat × Value)} {st : List Value} {σ : WD} (C : CF x g RX7 cc nL rm) (hdg : decode cc pc = .ok (.getfield 29, 3)) (pn : Nat) (hp : pc + 3 = pn) (kk : WW x g nL ce sl pn lv (.ref (adr g 35) :: st) σ) : WW x g nL ce sl pc lv (.ref (adr g 29) :: st) σ := x_get C 29 9 (gt_29 g σ) rfl iw_X7 (by decide) q_767 rfl hdg pn hp kk
theorem gf_768_29 {x : Cx} {g : Gb} {cc : ByteArray} {nL ce sl pc : Nat} {rm : Room} {lv : List (Nat × Value)} {st : List Value} {σ : WD} (C : CF x g RX7 cc nL rm) (hdg : decode cc pc = .ok (.getfield 32, 3)) (pn : Nat) (hp : pc + 3 = pn) (kk : WW x g nL ce sl pn lv (.ref (adr g 36) :: st) σ) : WW x g nL ce sl pc lv (.ref (adr g 29) :: st) σ := x_get C 29 10 (gt_29 g σ) rfl iw_X7 (by decide) q_768 rfl hdg pn hp kk
theorem gf_769_29 {x : Cx} {g : Gb} {cc : ByteArray} {nL ce sl pc : Nat} {rm : Room} {lv : List (Nat × Value)} {st : List Value} {σ : WD} (C : CF x g RX7 cc nL rm) (hdg : decode cc pc = .ok (.getfield 35, 3)) (pn : Nat) (hp : pc + 3 = pn) (kk : WW x g nL ce sl pn lv (.ref (adr g 37) :: st) σ) : WW x g nL ce sl pc lv (.ref (adr g 29) :: st) σ := x_get C 29 11 (gt_29 g σ) rfl iw_X7 (by decide) q_769 rfl hdg pn hp kk
theorem gf_770_29 {x : Cx} {g : Gb} {cc : ByteArray} {nL ce sl pc : Nat} {rm : Room} {lv : List (Nat × Value)} {st : List Value} {σ : WD} (C : CF x g RX7 cc nL rm) (hdg : decode cc pc = .ok (.getfield 38, 3)) (pn : Nat) (hp : pc + 3 = pn) (kk : WW x g nL ce sl pn lv (.ref (adr g 38) :: st) σ) : WW x g nL ce sl pc lv (.ref (adr g 29) :: st) σ := x_get C 29 12 (gt_29 g σ) rfl iw_X7 (by decide) q_770 rfl hdg pn hp kk
theorem gf_771_29 {x : Cx} {g : Gb} {cc : ByteArray} {nL ce sl pc : Nat} {rm : Room} {lv : List (Nat × Value)} {st : List Value} {σ : WD} (C : CF x g RX7 cc nL rm) (hdg : decode cc pc = .ok (.getfield 84, 3)) (pn : Nat) (hp : pc + 3 = pn) (kk : WW x g nL ce sl pn lv (.int (σ.1 29 13) :: st) σ) : WW x g nL ce sl pc lv (.ref (adr g 29) :: st) σ := x_get C 29 13 (gt_29 g σ) rfl iw_X7 (by decide) q_771 rfl hdg pn hp kk
theorem pf_771_29 {x : Cx} {g : Gb} {cc : ByteArray} {nL ce sl pc : Nat} {rm : Room} {lv : List (Nat × Value)} {st : List Value} {σ : WD} {v : Int32} (C : CF x g RX7 cc nL rm) (hdg : decode cc pc = .ok (.putfield 84, 3)) (pn : Nat) (hp : pc + 3 = pn) (kk : WW x g nL ce sl pn lv st (upi σ 29 13 v)) : WW x g nL ce sl pc lv (.int v :: .ref (adr g 29) :: st) σ := x_put C 29 13 (gt_29 g σ) rfl iw_X7 tyX7 tyX7_ok nmX7 (by decide) q_771 rfl (tyX7_ok 13 (by decide)) rfl rfl (Nat.le_of_ble_eq_true rfl) (st_29_13 g σ v) hdg pn hp kk
theorem gf_772_29 {x : Cx} {g : Gb} {cc : ByteArray} {nL ce sl pc : Nat} {rm : Room} {lv : List (Nat × Value)} {st : List Value} {σ : WD} (C : CF x g RX7 cc nL rm) (hdg : decode cc pc = .ok (.getfield 87, 3)) (pn : Nat) (hp : pc + 3 = pn) (kk : WW x g nL ce sl pn lv (.int (σ.1 29 14) :: st) σ) : WW x g nL ce sl pc lv (.ref (adr g 29) :: st) σ := x_get C 29 14 (gt_29 g σ) rfl iw_X7 (by decide) q_772 rfl hdg pn hp kk
theorem pf_772_29 {x : Cx} {g : Gb} {cc : ByteArray} {nL ce sl pc : Nat} {rm : Room} {lv : List (Nat × Value)} {st : List Value} {σ : WD} {v : Int32} (C : CF x g RX7 cc nL rm) (hdg : decode cc pc = .ok (.putfield 87, 3)) (pn : Nat) (hp : pc + 3 = pn) (kk : WW x g nL ce sl pn lv st (upi σ 29 14 v)) : WW x g nL ce sl pc lv (.int v :: .ref (adr g 29) :: st) σ := x_put C 29 14 (gt_29 g σ) rfl iw_X7 tyX7 tyX7_ok nmX7 (by decide) q_772 rfl (tyX7_ok 14 (by decide)) rfl rfl (Nat.le_of_ble_eq_true rfl) (st_29_14 g σ v) hdg pn hp kk
theorem gf_773_29 {x : Cx} {g : Gb} {cc : ByteArray} {nL ce sl pc : Nat} {rm : Room} {lv : List (Nat × Value)} {st : List Value} {σ : WD} (C : CF x g RX7 cc nL rm) (hdg : decode cc pc = .ok (.getfield 121, 3)) (pn : Nat) (hp : pc + 3 = pn) (kk : WW x g nL ce sl pn lv (.int (σ.1 29 15) :: st) σ) : WW x g nL ce sl pc lv (.ref (adr g 29) :: st) σ := x_get C 29 15 (gt_29 g σ) rfl iw_X7 (by decide) q_773 rfl hdg pn hp kk
theorem pf_773_29 {x : Cx} {g : Gb} {cc : ByteArray} {nL ce sl pc : Nat} {rm : Room} {lv : List (Nat × Value)} {st : List Value} {σ : WD} {v : Int32} (C : CF x g RX7 cc nL rm) (hdg : decode cc pc = .ok (.putfield 121, 3)) (pn : Nat) (hp : pc + 3 = pn) (kk : WW x g nL ce sl pn lv st (upi σ 29 15 v)) : WW x g nL ce sl pc lv (.int v :: .ref (adr g 29) :: st) σ := x_put C 29 15 (gt_29 g σ) rfl iw_X7 tyX7 tyX7_ok nmX7 (by decide) q_773 rfl (tyX7_ok 15 (by decide)) rfl rfl (Nat.le_of_ble_eq_true rfl) (st_29_15 g σ v) hdg pn hp kk
theorem gf_774_29 {x : Cx} {g : Gb} {cc : ByteArray} {nL ce sl pc : Nat} {rm : Room} {lv : List (Nat × Value)} {st : List Value} {σ : WD} (C : CF x g RX7 cc nL rm) (hdg : decode cc pc = .ok (.getfield 124, 3)) (pn : Nat) (hp : pc + 3 = pn) (kk : WW x g nL ce sl pn lv (.int (σ.1 29 16) :: st) σ) : WW x g nL ce sl pc lv (.ref (adr g 29) :: st) σ := x_get C 29 16 (gt_29 g σ) rfl iw_X7 (by decide) q_774 rfl hdg pn hp kk
theorem pf_774_29 {x : Cx} {g : Gb} {cc : ByteArray} {nL ce sl pc : Nat} {rm : Room} {lv : List (Nat × Value)} {st : List Value} {σ : WD} {v : Int32} (C : CF x g RX7 cc nL rm) (hdg : decode cc pc = .ok (.putfield 124, 3)) (pn : Nat) (hp : pc + 3 = pn) (kk : WW x g nL ce sl pn lv st (upi σ 29 16 v)) : WW x g nL ce sl pc lv (.int v :: .ref (adr g 29) :: st) σ := x_put C 29 16 (gt_29 g σ) rfl iw_X7 tyX7 tyX7_ok nmX7 (by decide) q_774 rfl (tyX7_ok 16 (by decide)) rfl rfl (Nat.le_of_ble_eq_true rfl) (st_29_16 g σ v) hdg pn hp kk
theorem gf_775_29 {x : Cx} {g : Gb} {cc : ByteArray} {nL ce sl pc : Nat} {rm : Room} {lv : List (Nat × Value)} {st : List Value} {σ : WD} (C : CF x g RX7 cc nL rm) (hdg : decode cc pc = .ok (.getfield 41, 3)) (pn : Nat) (hp : pc + 3 = pn) (kk : WW x g nL ce sl pn lv (.ref (adr g 39) :: st) σ) : WW x g nL ce sl pc lv (.ref (adr g 29) :: st) σ := x_get C 29 17 (gt_29 g σ) rfl iw_X7 (by decide) q_775 rfl hdg pn hp kk
theorem gf_776_29 {x : Cx} {g : Gb} {cc : ByteArray} {nL ce sl pc : Nat} {rm : Room} {lv : List (Nat × Value)} {st : List Value} {σ : WD} (C : CF x g RX7 cc nL rm) (hdg : decode cc pc = .ok (.getfield 205, 3)) (pn : Nat) (hp : pc + 3 = pn) (kk : WW x g nL ce sl pn lv (.long σ.2.1 :: st) σ) : WW x g nL ce sl pc lv (.ref (adr g 29) :: st) σ := x_get C 29 18 (gt_29 g σ) rfl iw_X7 (by decide) q_776 rfl hdg pn hp kk
theorem pf_776_29 {x : Cx} {g : Gb} {cc : ByteArray} {nL ce sl pc : Nat} {rm : Room} {lv : List (Nat × Value)} {st : List Value} {σ : WD} {v : Int64} (C : CF x g RX7 cc nL rm) (hdg : decode cc pc = .ok (.putfield 205, 3)) (pn : Nat) (hp : pc + 3 = pn) (kk : WW x g nL ce sl pn lv st (uph σ v)) : WW x g nL ce sl pc lv (.long v :: .ref (adr g 29) :: st) σ := x_put C 29 18 (gt_29 g σ) rfl iw_X7 tyX7 tyX7_ok nmX7 (by decide) q_776 rfl (tyX7_ok 18 (by decide)) rfl rfl (Nat.le_of_ble_eq_true rfl) (st_29_18 g σ v) hdg pn hp kk
theorem gf_34_1 {x : Cx} {g : Gb} {cc : ByteArray} {nL ce sl pc : Nat} {rm : Room} {lv : List (Nat × Value)} {st : List Value} {σ : WD} (C : CF x g RX5 cc nL rm) (hdg : decode cc pc = .ok (.getfield 36, 3)) (pn : Nat) (hp : pc + 3 = pn) (kk : WW x g nL ce sl pn lv (.int (σ.1 1 0) :: st) σ) : WW x g nL ce sl pc lv (.ref (adr g 1) :: st) σ := x_getN C 1 0 (gt_1 g σ) rfl iw_X0 (by decide) (fun h => n_34 h) rfl hdg pn hp kk
theorem pf_34_1 {x : Cx} {g : Gb} {cc : ByteArray} {nL ce sl pc : Nat} {rm : Room} {lv : List (Nat × Value)} {st : List Value} {σ : WD} {v : Int32} (C : CF x g RX5 cc nL rm) (hdg : decode cc pc = .ok (.putfield 36, 3)) (pn : Nat) (hp : pc + 3 = pn) (kk : WW x g nL ce sl pn lv st (upi σ 1 0 v)) : WW x g nL ce sl pc lv (.int v :: .ref (adr g 1) :: st) σ := x_putN C 1 0 (gt_1 g σ) rfl iw_X0 tyX0 tyX0_ok nmX0 (by decide) (fun h => n_34 h) rfl (tyX0_ok 0 (by decide)) rfl rfl (Nat.le_of_ble_eq_true rfl) (st_1_0 g σ v) hdg pn hp kk
theorem gf_34_27 {x : Cx} {g : Gb} {cc : ByteArray} {nL ce sl pc : Nat} {rm : Room} {lv : List (Nat × Value)} {st : List Value} {σ : WD} (C : CF x g RX5 cc nL rm) (hdg : decode cc pc = .ok (.getfield 36, 3)) (pn : Nat) (hp : pc + 3 = pn) (kk : WW x g nL ce sl pn lv (.int (σ.1 27 0) :: st) σ) : WW x g nL ce sl pc lv (.ref (adr g 27) :: st) σ := x_getN C 27 0 (gt_27 g σ) rfl iw_X0 (by decide) (fun h => n_34 h) rfl hdg pn hp kk
theorem pf_34_27 {x : Cx} {g : Gb} {cc : ByteArray} {nL ce sl pc : Nat} {rm : Room} {lv : List (Nat × Value)} {st : List Value} {σ : WD} {v : Int32} (C : CF x g RX5 cc nL rm) (hdg : decode cc pc = .ok (.putfield 36, 3)) (pn : Nat) (hp : pc + 3 = pn) (kk : WW x g nL ce sl pn lv st (upi σ 27 0 v)) : WW x g nL ce sl pc lv (.int v :: .ref (adr g 27) :: st) σ := x_putN C 27 0 (gt_27 g σ) rfl iw_X0 tyX0 tyX0_ok nmX0 (by decide) (fun h => n_34 h) rfl (tyX0_ok 0 (by decide)) rfl rfl (Nat.le_of_ble_eq_true rfl) (st_27_0 g σ v) hdg pn hp kk
theorem gf_35_1 {x : Cx} {g : Gb} {cc : ByteArray} {nL ce sl pc : Nat} {rm : Room} {lv : List (Nat × Value)} {st : List Value} {σ : WD} (C : CF x g RX6 cc nL rm) (hdg : decode cc pc = .ok (.getfield 65, 3)) (pn : Nat) (hp : pc + 3 = pn) (kk : WW x g nL ce sl pn lv (.int (σ.1 1 0) :: st) σ) : WW x g nL ce sl pc lv (.ref (adr g 1) :: st) σ := x_getN C 1 0 (gt_1 g σ) rfl iw_X0 (by decide) (fun h => n_35 h) rfl hdg pn hp kk
theorem pf_35_1 {x : Cx} {g : Gb} {cc : ByteArray} {nL ce sl pc : Nat} {rm : Room} {lv : List (Nat × Value)} {st : List Value} {σ : WD} {v : Int32} (C : CF x g RX6 cc nL rm) (hdg : decode cc pc = .ok (.putfield 65, 3)) (pn : Nat) (hp : pc + 3 = pn) (kk : WW x g nL ce sl pn lv st (upi σ 1 0 v)) : WW x g nL ce sl pc lv (.int v :: .ref (adr g 1) :: st) σ := x_putN C 1 0 (gt_1 g σ) rfl iw_X0 tyX0 tyX0_ok nmX0 (by decide) (fun h => n_35 h) rfl (tyX0_ok 0 (by decide)) rfl rfl (Nat.le_of_ble_eq_true rfl) (st_1_0 g σ v) hdg pn hp kk
theorem gf_35_27 {x : Cx} {g : Gb} {cc : ByteArray} {nL ce sl pc : Nat} {rm : Room} {lv : List (Nat × Value)} {st : List Value} {σ : WD} (C : CF x g RX6 cc nL rm) (hdg : decode cc pc = .ok (.getfield 65, 3)) (pn : Nat) (hp : pc + 3 = pn) (kk : WW x g nL ce sl pn lv (.int (σ.1 27 0) :: st) σ) : WW x g nL ce sl pc lv (.ref (adr g 27) :: st) σ := x_getN C 27 0 (gt_27 g σ) rfl iw_X0 (by decide) (fun h => n_35 h) rfl hdg pn hp kk
theorem pf_35_27 {x : Cx} {g : Gb} {cc : ByteArray} {nL ce sl pc : Nat} {rm : Room} {lv : List (Nat × Value)} {st : List Value} {σ : WD} {v : Int32} (C : CF x g RX6 cc nL rm) (hdg : decode cc pc = .ok (.putfield 65, 3)) (pn : Nat) (hp : pc + 3 = pn) (kk : WW x g nL ce sl pn lv st (upi σ 27 0 v)) : WW x g nL ce sl pc lv (.int v :: .ref (adr g 27) :: st) σ := x_putN C 27 0 (gt_27 g σ) rfl iw_X0 tyX0 tyX0_ok nmX0 (by decide) (fun h => n_35 h) rfl (tyX0_ok 0 (by decide)) rfl rfl (Nat.le_of_ble_eq_true rfl) (st_27_0 g σ v) hdg pn hp kk
theorem gf_36_1 {x : Cx} {g : Gb} {cc : ByteArray} {nL ce sl pc : Nat} {rm : Room} {lv : List (Nat × Value)} {st : List Value} {σ : WD} (C : CF x g RX4 cc nL rm) (hdg : decode cc pc = .ok (.getfield 56, 3)) (pn : Nat) (hp : pc + 3 = pn) (kk : WW x g nL ce sl pn lv (.int (σ.1 1 0) :: st) σ) : WW x g nL ce sl pc lv (.ref (adr g 1) :: st) σ := x_getN C 1 0 (gt_1 g σ) rfl iw_X0 (by decide) (fun h => n_36 h) rfl hdg pn hp kk
theorem pf_36_1 {x : Cx} {g : Gb} {cc : ByteArray} {nL ce sl pc : Nat} {rm : Room} {lv : List (Nat × Value)} {st : List Value} {σ : WD} {v : Int32} (C : CF x g RX4 cc nL rm) (hdg : decode cc pc = .ok (.putfield 56, 3)) (pn : Nat) (hp : pc + 3 = pn) (kk : WW x g nL ce sl pn lv st (upi σ 1 0 v)) : WW x g nL ce sl pc lv (.int v :: .ref (adr g 1) :: st) σ := x_putN C 1 0 (gt_1 g σ) rfl iw_X0 tyX0 tyX0_ok nmX0 (by decide) (fun h => n_36 h) rfl (tyX0_ok 0 (by decide)) rfl rfl (Nat.le_of_ble_eq_true rfl) (st_1_0 g σ v) hdg pn hp kk
theorem gf_36_27 {x : Cx} {g : Gb} {cc : ByteArray} {nL ce sl pc : Nat} {rm : Room} {lv : List (Nat × Value)} {st : List Value} {σ : WD} (C : CF x g RX4 cc nL rm) (hdg : decode cc pc = .ok (.getfield 56, 3)) (pn : Nat) (hp : pc + 3 = pn) (kk : WW x g nL ce sl pn lv (.int (σ.1 27 0) :: st) σ) : WW x g nL ce sl pc lv (.ref (adr g 27) :: st) σ := x_getN C 27 0 (gt_27 g σ) rfl iw_X0 (by decide) (fun h => n_36 h) rfl hdg pn hp kk
theorem pf_36_27 {x : Cx} {g : Gb} {cc : ByteArray} {nL ce sl pc : Nat} {rm : Room} {lv : List (Nat × Value)} {st : List Value} {σ : WD} {v : Int32} (C : CF x g RX4 cc nL rm) (hdg : decode cc pc = .ok (.putfield 56, 3)) (pn : Nat) (hp : pc + 3 = pn) (kk : WW x g nL ce sl pn lv st (upi σ 27 0 v)) : WW x g nL ce sl pc lv (.int v :: .ref (adr g 27) :: st) σ := x_putN C 27 0 (gt_27 g σ) rfl iw_X0 tyX0 tyX0_ok nmX0 (by decide) (fun h => n_36 h) rfl (tyX0_ok 0 (by decide)) rfl rfl (Nat.le_of_ble_eq_true rfl) (st_27_0 g σ v) hdg pn hp kk
theorem gf_38_1 {x : Cx} {g : Gb} {cc : ByteArray} {nL ce sl pc : Nat} {rm : Room} {lv : List (Nat × Value)} {st : List Value} {σ : WD} (C : CF x g RX1 cc nL rm) (hdg : decode cc pc = .ok (.getfield 26, 3)) (pn : Nat) (hp : pc + 3 = pn) (kk : WW x g nL ce sl pn lv (.ref (adr g 2) :: st) σ) : WW x g nL ce sl pc lv (.ref (adr g 1) :: st) σ := x_getN C 1 1 (gt_1 g σ) rfl iw_X0 (by decide) (fun h => n_38 h) rfl hdg pn hp kk
theorem gf_38_27 {x : Cx} {g : Gb} {cc : ByteArray} {nL ce sl pc : Nat} {rm : Room} {lv : List (Nat × Value)} {st : List Value} {σ : WD} (C : CF x g RX1 cc nL rm) (hdg : decode cc pc = .ok (.getfield 26, 3)) (pn : Nat) (hp : pc + 3 = pn) (kk : WW x g nL ce sl pn lv (.ref (adr g 28) :: st) σ) : WW x g nL ce sl pc lv (.ref (adr g 27) :: st) σ := x_getN C 27 1 (gt_27 g σ) rfl iw_X0 (by decide) (fun h => n_38 h) rfl hdg pn hp kk
theorem gf_39_1 {x : Cx} {g : Gb} {cc : ByteArray} {nL ce sl pc : Nat} {rm : Room} {lv : List (Nat × Value)} {st : List Value} {σ : WD} (C : CF x g RX4 cc nL rm) (hdg : decode cc pc = .ok (.getfield 59, 3)) (pn : Nat) (hp : pc + 3 = pn) (kk : WW x g nL ce sl pn lv (.ref (adr g 2) :: st) σ) : WW x g nL ce sl pc lv (.ref (adr g 1) :: st) σ := x_getN C 1 1 (gt_1 g σ) rfl iw_X0 (by decide) (fun h => n_39 h) rfl hdg pn hp kk
theorem gf_39_27 {x : Cx} {g : Gb} {cc : ByteArray} {nL ce sl pc : Nat} {rm : Room} {lv : List (Nat × Value)} {st : List Value} {σ : WD} (C : CF x g RX4 cc nL rm) (hdg : decode cc pc = .ok (.getfield 59, 3)) (pn : Nat) (hp : pc + 3 = pn) (kk : WW x g nL ce sl pn lv (.ref (adr g 28) :: st) σ) : WW x g nL ce sl pc lv (.ref (adr g 27) :: st) σ := x_getN C 27 1 (gt_27 g σ) rfl iw_X0 (by decide) (fun h => n_39 h) rfl hdg pn hp kk
theorem gf_40_1 {x : Cx} {g : Gb} {cc : ByteArray} {nL ce sl pc : Nat} {rm : Room} {lv : List (Nat × Value)} {st : List Value} {σ : WD} (C : CF x g RX6 cc nL rm) (hdg : decode cc pc = .ok (.getfield 240, 3)) (pn : Nat) (hp : pc + 3 = pn) (kk : WW x g nL ce sl pn lv (.ref (adr g 2) :: st) σ) : WW x g nL ce sl pc lv (.ref (adr g 1) :: st) σ := x_getN C 1 1 (gt_1 g σ) rfl iw_X0 (by decide) (fun h => n_40 h) rfl hdg pn hp kk
theorem gf_40_27 {x : Cx} {g : Gb} {cc : ByteArray} {nL ce sl pc : Nat} {rm : Room} {lv : List (Nat × Value)} {st : List Value} {σ : WD} (C : CF x g RX6 cc nL rm) (hdg : decode cc pc = .ok (.getfield 240, 3)) (pn : Nat) (hp : pc + 3 = pn) (kk : WW x g nL ce sl pn lv (.ref (adr g 28) :: st) σ) : WW x g nL ce sl pc lv (.ref (adr g 27) :: st) σ := x_getN C 27 1 (gt_27 g σ) rfl iw_X0 (by decide) (fun h => n_40 h) rfl hdg pn hp kk
theorem gf_42_1 {x : Cx} {g : Gb} {cc : ByteArray} {nL ce sl pc : Nat} {rm : Room} {lv : List (Nat × Value)} {st : List Value} {σ : WD} (C : CF x g RX4 cc nL rm) (hdg : decode cc pc = .ok (.getfield 37, 3)) (pn : Nat) (hp : pc + 3 = pn) (kk : WW x g nL ce sl pn lv (.int (σ.1 1 2) :: st) σ) : WW x g nL ce sl pc lv (.ref (adr g 1) :: st) σ := x_getN C 1 2 (gt_1 g σ) rfl iw_X0 (by decide) (fun h => n_42 h) rfl hdg pn hp kk
theorem pf_42_1 {x : Cx} {g : Gb} {cc : ByteArray} {nL ce sl pc : Nat} {rm : Room} {lv : List (Nat × Value)} {st : List Value} {σ : WD} {v : Int32} (C : CF x g RX4 cc nL rm) (hdg : decode cc pc = .ok (.putfield 37, 3)) (pn : Nat) (hp : pc + 3 = pn) (kk : WW x g nL ce sl pn lv st (upi σ 1 2 v)) : WW x g nL ce sl pc lv (.int v :: .ref (adr g 1) :: st) σ := x_putN C 1 2 (gt_1 g σ) rfl iw_X0 tyX0 tyX0_ok nmX0 (by decide) (fun h => n_42 h) rfl (tyX0_ok 2 (by decide)) rfl rfl (Nat.le_of_ble_eq_true rfl) (st_1_2 g σ v) hdg pn hp kk
theorem gf_42_27 {x : Cx} {g : Gb} {cc : ByteArray} {nL ce sl pc : Nat} {rm : Room} {lv : List (Nat × Value)} {st : List Value} {σ : WD} (C : CF x g RX4 cc nL rm) (hdg : decode cc pc = .ok (.getfield 37, 3)) (pn : Nat) (hp : pc + 3 = pn) (kk : WW x g nL ce sl pn lv (.int (σ.1 27 2) :: st) σ) : WW x g nL ce sl pc lv (.ref (adr g 27) :: st) σ := x_getN C 27 2 (gt_27 g σ) rfl iw_X0 (by decide) (fun h => n_42 h) rfl hdg pn hp kk
theorem pf_42_27 {x : Cx} {g : Gb} {cc : ByteArray} {nL ce sl pc : Nat} {rm : Room} {lv : List (Nat × Value)} {st : List Value} {σ : WD} {v : Int32} (C : CF x g RX4 cc nL rm) (hdg : decode cc pc = .ok (.putfield 37, 3)) (pn : Nat) (hp : pc + 3 = pn) (kk : WW x g nL ce sl pn lv st (upi σ 27 2 v)) : WW x g nL ce sl pc lv (.int v :: .ref (adr g 27) :: st) σ := x_putN C 27 2 (gt_27 g σ) rfl iw_X0 tyX0 tyX0_ok nmX0 (by decide) (fun h => n_42 h) rfl (tyX0_ok 2 (by decide)) rfl rfl (Nat.le_of_ble_eq_true rfl) (st_27_2 g σ v) hdg pn hp kk
theorem gf_61_3 {x : Cx} {g : Gb} {cc : ByteArray} {nL ce sl pc : Nat} {rm : Room} {lv : List (Nat × Value)} {st : List Value} {σ : WD} (C : CF x g RX5 cc nL rm) (hdg : decode cc pc = .ok (.getfield 41, 3)) (pn : Nat) (hp : pc + 3 = pn) (kk : WW x g nL ce sl pn lv (.ref (adr g 4) :: st) σ) : WW x g nL ce sl pc lv (.ref (adr g 3) :: st) σ := x_getN C 3 0 (gt_3 g σ) rfl iw_X3 (by decide) (fun h => n_61 h) rfl hdg pn hp kk
theorem gf_61_25 {x : Cx} {g : Gb} {cc : ByteArray} {nL ce sl pc : Nat} {rm : Room} {lv : List (Nat × Value)} {st : List Value} {σ : WD} (C : CF x g RX5 cc nL rm) (hdg : decode cc pc = .ok (.getfield 41, 3)) (pn : Nat) (hp : pc + 3 = pn) (kk : WW x g nL ce sl pn lv (.ref (adr g 26) :: st) σ) : WW x g nL ce sl pc lv (.ref (adr g 25) :: st) σ := x_getN C 25 0 (gt_25 g σ) rfl iw_X3 (by decide) (fun h => n_61 h) rfl hdg pn hp kk
theorem gf_62_3 {x : Cx} {g : Gb} {cc : ByteArray} {nL ce sl pc : Nat} {rm : Room} {lv : List (Nat × Value)} {st : List Value} {σ : WD} (C : CF x g RX1 cc nL rm) (hdg : decode cc pc = .ok (.getfield 38, 3)) (pn : Nat) (hp : pc + 3 = pn) (kk : WW x g nL ce sl pn lv (.ref (adr g 4) :: st) σ) : WW x g nL ce sl pc lv (.ref (adr g 3) :: st) σ := x_getN C 3 0 (gt_3 g σ) rfl iw_X3 (by decide) (fun h => n_62 h) rfl hdg pn hp kk
theorem gf_62_25 {x : Cx} {g : Gb} {cc : ByteArray} {nL ce sl pc : Nat} {rm : Room} {lv : List (Nat × Value)} {st : List Value} {σ : WD} (C : CF x g RX1 cc nL rm) (hdg : decode cc pc = .ok (.getfield 38, 3)) (pn : Nat) (hp : pc + 3 = pn) (kk : WW x g nL ce sl pn lv (.ref (adr g 26) :: st) σ) : WW x g nL ce sl pc lv (.ref (adr g 25) :: st) σ := x_getN C 25 0 (gt_25 g σ) rfl iw_X3 (by decide) (fun h => n_62 h) rfl hdg pn hp kk
theorem gf_63_3 {x : Cx} {g : Gb} {cc : ByteArray} {nL ce sl pc : Nat} {rm : Room} {lv : List (Nat × Value)} {st : List Value} {σ : WD} (C : CF x g RX6 cc nL rm) (hdg : decode cc pc = .ok (.getfield 150, 3)) (pn : Nat) (hp : pc + 3 = pn) (kk : WW x g nL ce sl pn lv (.ref (adr g 4) :: st) σ) : WW x g nL ce sl pc lv (.ref (adr g 3) :: st) σ := x_getN C 3 0 (gt_3 g σ) rfl iw_X3 (by decide) (fun h => n_63 h) rfl hdg pn hp kk
theorem gf_63_25 {x : Cx} {g : Gb} {cc : ByteArray} {nL ce sl pc : Nat} {rm : Room} {lv : List (Nat × Value)} {st : List Value} {σ : WD} (C : CF x g RX6 cc nL rm) (hdg : decode cc pc = .ok (.getfield 150, 3)) (pn : Nat) (hp : pc + 3 = pn) (kk : WW x g nL ce sl pn lv (.ref (adr g 26) :: st) σ) : WW x g nL ce sl pc lv (.ref (adr g 25) :: st) σ := x_getN C 25 0 (gt_25 g σ) rfl iw_X3 (by decide) (fun h => n_63 h) rfl hdg pn hp kk
theorem gf_74_5 {x : Cx} {g : Gb} {cc : ByteArray} {nL ce sl pc : Nat} {rm : Room} {lv : List (Nat × Value)} {st : List Value} {σ : WD} (C : CF x g RX6 cc nL rm) (hdg : decode cc pc = .ok (.getfield 325, 3)) (pn : Nat) (hp : pc + 3 = pn) (kk : WW x g nL ce sl pn lv (.ref (adr g 6) :: st) σ) : WW x g nL ce sl pc lv (.ref (adr g 5) :: st) σ := x_getN C 5 0 (gt_5 g σ) rfl iw_X2 (by decide) (fun h => n_74 h) rfl hdg pn hp kk
theorem gf_76_5 {x : Cx} {g : Gb} {cc : ByteArray} {nL ce sl pc : Nat} {rm : Room} {lv : List (Nat × Value)} {st : List Value} {σ : WD} (C : CF x g RX6 cc nL rm) (hdg : decode cc pc = .ok (.getfield 102, 3)) (pn : Nat) (hp : pc + 3 = pn) (kk : WW x g nL ce sl pn lv (.int (σ.1 5 1) :: st) σ) : WW x g nL ce sl pc lv (.ref (adr g 5) :: st) σ := x_getN C 5 1 (gt_5 g σ) rfl iw_X2 (by decide) (fun h => n_76 h) rfl hdg pn hp kk
theorem pf_76_5 {x : Cx} {g : Gb} {cc : ByteArray} {nL ce sl pc : Nat} {rm : Room} {lv : List (Nat × Value)} {st : List Value} {σ : WD} {v : Int32} (C : CF x g RX6 cc nL rm) (hdg : decode cc pc = .ok (.putfield 102, 3)) (pn : Nat) (hp : pc + 3 = pn) (kk : WW x g nL ce sl pn lv st (upi σ 5 1 v)) : WW x g nL ce sl pc lv (.int v :: .ref (adr g 5) :: st) σ := x_putN C 5 1 (gt_5 g σ) rfl iw_X2 tyX2 tyX2_ok nmX2 (by decide) (fun h => n_76 h) rfl (tyX2_ok 1 (by decide)) rfl rfl (Nat.le_of_ble_eq_true rfl) (st_5_1 g σ v) hdg pn hp kk
theorem gf_94_7 {x : Cx} {g : Gb} {cc : ByteArray} {nL ce sl pc : Nat} {rm : Room} {lv : List (Nat × Value)} {st : List Value} {σ : WD} (C : CF x g RX6 cc nL rm) (hdg : decode cc pc = .ok (.getfield 179, 3)) (pn : Nat) (hp : pc + 3 = pn) (kk : WW x g nL ce sl pn lv (.int (σ.1 7 3) :: st) σ) : WW x g nL ce sl pc lv (.ref (adr g 7) :: st) σ := x_getN C 7 3 (gt_7 g σ) rfl iw_X1 (by decide) (fun h => n_94 h) rfl hdg pn hp kk
theorem pf_94_7 {x : Cx} {g : Gb} {cc : ByteArray} {nL ce sl pc : Nat} {rm : Room} {lv : List (Nat × Value)} {st : List Value} {σ : WD} {v : Int32} (C : CF x g RX6 cc nL rm) (hdg : decode cc pc = .ok (.putfield 179, 3)) (pn : Nat) (hp : pc + 3 = pn) (kk : WW x g nL ce sl pn lv st (upi σ 7 3 v)) : WW x g nL ce sl pc lv (.int v :: .ref (adr g 7) :: st) σ := x_putN C 7 3 (gt_7 g σ) rfl iw_X1 tyX1 tyX1_ok nmX1 (by decide) (fun h => n_94 h) rfl (tyX1_ok 3 (by decide)) rfl rfl (Nat.le_of_ble_eq_true rfl) (st_7_3 g σ v) hdg pn hp kk
theorem gf_115_18 {x : Cx} {g : Gb} {cc : ByteArray} {nL ce sl pc : Nat} {rm : Room} {lv : List (Nat × Value)} {st : List Value} {σ : WD} (C : CF x g RX6 cc nL rm) (hdg : decode cc pc = .ok (.getfield 164, 3)) (pn : Nat) (hp : pc + 3 = pn) (kk : WW x g nL ce sl pn lv (.ref (adr g 21) :: st) σ) : WW x g nL ce sl pc lv (.ref (adr g 18) :: st) σ := x_getN C 18 4 (gt_18 g σ) rfl iw_X5 (by decide) (fun h => n_115 h) rfl hdg pn hp kk
theorem gf_117_18 {x : Cx} {g : Gb} {cc : ByteArray} {nL ce sl pc : Nat} {rm : Room} {lv : List (Nat × Value)} {st : List Value} {σ : WD} (C : CF x g RX6 cc nL rm) (hdg : decode cc pc = .ok (.getfield 190, 3)) (pn : Nat) (hp : pc + 3 = pn) (kk : WW x g nL ce sl pn lv (.int (σ.1 18 5) :: st) σ) : WW x g nL ce sl pc lv (.ref (adr g 18) :: st) σ := x_getN C 18 5 (gt_18 g σ) rfl iw_X5 (by decide) (fun h => n_117 h) rfl hdg pn hp kk
theorem pf_117_18 {x : Cx} {g : Gb} {cc : ByteArray} {nL ce sl pc : Nat} {rm : Room} {lv : List (Nat × Value)} {st : List Value} {σ : WD} {v : Int32} (C : CF x g RX6 cc nL rm) (hdg : decode cc pc = .ok (.putfield 190, 3)) (pn : Nat) (hp : pc + 3 = pn) (kk : WW x g nL ce sl pn lv st (upi σ 18 5 v)) : WW x g nL ce sl pc lv (.int v :: .ref (adr g 18) :: st) σ := x_putN C 18 5 (gt_18 g σ) rfl iw_X5 tyX5 tyX5_ok nmX5 (by decide) (fun h => n_117 h) rfl (tyX5_ok 5 (by decide)) rfl rfl (Nat.le_of_ble_eq_true rfl) (st_18_5 g σ v) hdg pn hp kk
theorem gf_119_18 {x : Cx} {g : Gb} {cc : ByteArray} {nL ce sl pc : Nat} {rm : Room} {lv : List (Nat × Value)} {st : List Value} {σ : WD} (C : CF x g RX6 cc nL rm) (hdg : decode cc pc = .ok (.getfield 193, 3)) (pn : Nat) (hp : pc + 3 = pn) (kk : WW x g nL ce sl pn lv (.int (σ.1 18 6) :: st) σ) : WW x g nL ce sl pc lv (.ref (adr g 18) :: st) σ := x_getN C 18 6 (gt_18 g σ) rfl iw_X5 (by decide) (fun h => n_119 h) rfl hdg pn hp kk
theorem pf_119_18 {x : Cx} {g : Gb} {cc : ByteArray} {nL ce sl pc : Nat} {rm : Room} {lv : List (Nat × Value)} {st : List Value} {σ : WD} {v : Int32} (C : CF x g RX6 cc nL rm) (hdg : decode cc pc = .ok (.putfield 193, 3)) (pn : Nat) (hp : pc + 3 = pn) (kk : WW x g nL ce sl pn lv st (upi σ 18 6 v)) : WW x g nL ce sl pc lv (.int v :: .ref (adr g 18) :: st) σ := x_putN C 18 6 (gt_18 g σ) rfl iw_X5 tyX5 tyX5_ok nmX5 (by decide) (fun h => n_119 h) rfl (tyX5_ok 6 (by decide)) rfl rfl (Nat.le_of_ble_eq_true rfl) (st_18_6 g σ v) hdg pn hp kk
theorem mi_X0_clear : MI yX0_clear (.code yX0_clear cX0_clear 2 none) cX0_clear 2 1 none := ⟨rfl, q_569, q_567, q_568, q_2, by decide, by decide, by decide +kernel⟩
theorem mi_X0_copyFrom : MI yX0_copyFrom (.code yX0_copyFrom cX0_copyFrom 2 none) cX0_copyFrom 2 1 none := ⟨rfl, q_688, q_686, q_687, q_2, by decide, by decide, by decide +kernel⟩
theorem mi_X0_all : MI yX0_all (.code yX0_all cX0_all 1 (some (.int))) cX0_all 1 0 (some (.int)) := ⟨rfl, q_279, q_277, q_278, q_2, by decide, by decide, by decide +kernel⟩
theorem mi_X0_joined : MI yX0_joined (.code yX0_joined cX0_joined 3 (some (.boolean))) cX0_joined 3 2 (some (.boolean)) := ⟨rfl, q_250, q_248, q_249, q_2, by decide, by decide, by decide +kernel⟩
theorem mi_X0_put : MI yX0_put (.code yX0_put cX0_put 4 none) cX0_put 4 3 none := ⟨rfl, q_574, q_572, q_573, q_2, by decide, by decide, by decide +kernel⟩
theorem mi_X0_edges : MI yX0_edges (.code yX0_edges cX0_edges 3 (some (.int))) cX0_edges 3 0 (some (.int)) := ⟨rfl, q_365, q_363, q_364, q_2, by decide, by decide, by decide +kernel⟩
theorem mi_X0_pieceOf : MI yX0_pieceOf (.code yX0_pieceOf cX0_pieceOf 8 (some (.int))) cX0_pieceOf 8 2 (some (.int)) := ⟨rfl, q_344, q_342, q_343, q_2, by decide, by decide, by decide +kernel⟩
theorem mi_X0_pieces : MI yX0_pieces (.code yX0_pieces cX0_pieces 7 (some (.int))) cX0_pieces 7 2 (some (.int)) := ⟨rfl, q_340, q_338, q_339, q_2, by decide, by decide, by decide +kernel⟩
theorem mi_X0_shortestOddWalk : MI yX0_shortestOddWalk (.code yX0_shortestOddWalk cX0_shortestOddWalk 4 (some (.int))) cX0_shortestOddWalk 4 1 (some (.int)) := ⟨rfl, q_313, q_311, q_312, q_2, by decide, by decide, by decide +kernel⟩
theorem mi_X0_besides : MI yX0_besides (.code yX0_besides cX0_besides 4 (some (.int))) cX0_besides 4 1 (some (.int)) := ⟨rfl, q_317, q_316, qs_10, q_2, by decide, by decide, by decide +kernel⟩
theorem mi_X0_hasNoEnd : MI yX0_hasNoEnd (.code yX0_hasNoEnd cX0_hasNoEnd 3 (some (.boolean))) cX0_hasNoEnd 3 1 (some (.boolean)) := ⟨rfl, q_579, q_577, q_578, q_2, by decide, by decide, by decide +kernel⟩
theorem mi_X1_clear : MI yX1_clear (.code yX1_clear cX1_clear 1 none) cX1_clear 1 0 none := ⟨rfl, q_597, q_595, q_596, q_6, by decide, by decide, by decide +kernel⟩
theorem mi_X1_save : MI yX1_save (.code yX1_save cX1_save 3 none) cX1_save 3 2 none := ⟨rfl, q_211, q_209, q_210, q_6, by decide, by decide, by decide +kernel⟩
theorem mi_X1_restore : MI yX1_restore (.code yX1_restore cX1_restore 3 none) cX1_restore 3 2 none := ⟨rfl, q_684, q_682, q_683, q_6, by decide, by decide, by decide +kernel⟩
theorem mi_X2_add : MI yX2_add (.code yX2_add cX2_add 2 none) cX2_add 2 1 none := ⟨rfl, q_627, q_625, q_626, q_5, by decide, by decide, by decide +kernel⟩
theorem mi_X2_errorPlace : MI yX2_errorPlace (.code yX2_errorPlace cX2_errorPlace 4 (some (.int))) cX2_errorPlace 4 1 (some (.int)) := ⟨rfl, q_195, q_193, q_194, q_5, by decide, by decide, by decide +kernel⟩
theorem mi_X2_isComplete : MI yX2_isComplete (.code yX2_isComplete cX2_isComplete 4 (some (.boolean))) cX2_isComplete 4 1 (some (.boolean)) := ⟨rfl, q_638, q_636, q_637, q_5, by decide, by decide, by decide +kernel⟩
theorem mi_X2_stateAt : MI yX2_stateAt (.code yX2_stateAt cX2_stateAt 6 (some (.int))) cX2_stateAt 6 3 (some (.int)) := ⟨rfl, q_199, q_198, qs_0, q_5, by decide, by decide, by decide +kernel⟩
theorem mi_X2_nodeAt : MI yX2_nodeAt (.code yX2_nodeAt cX2_nodeAt 2 (some (.int))) cX2_nodeAt 2 1 (some (.int)) := ⟨rfl, q_203, q_201, q_202, q_5, by decide, by decide, by decide +kernel⟩
theorem mi_X2_isMarked : MI yX2_isMarked (.code yX2_isMarked cX2_isMarked 2 (some (.boolean))) cX2_isMarked 2 1 (some (.boolean)) := ⟨rfl, q_643, q_641, q_642, q_5, by decide, by decide, by decide +kernel⟩
theorem mi_X3_clear : MI yX3_clear (.code yX3_clear cX3_clear 1 none) cX3_clear 1 0 none := ⟨rfl, q_291, q_289, q_290, q_3, by decide, by decide, by decide +kernel⟩
theorem mi_X3_copyFrom : MI yX3_copyFrom (.code yX3_copyFrom cX3_copyFrom 2 none) cX3_copyFrom 2 1 none := ⟨rfl, q_304, q_302, q_303, q_3, by decide, by decide, by decide +kernel⟩
theorem mi_X3_isExposed : MI yX3_isExposed (.code yX3_isExposed cX3_isExposed 2 (some (.boolean))) cX3_isExposed 2 1 (some (.boolean)) := ⟨rfl, q_225, q_223, q_224, q_3, by decide, by decide, by decide +kernel⟩
theorem mi_X3_has : MI yX3_has (.code yX3_has cX3_has 3 (some (.boolean))) cX3_has 3 2 (some (.boolean)) := ⟨rfl, q_300, q_298, q_299, q_3, by decide, by decide, by decide +kernel⟩
theorem mi_X3_join : MI yX3_join (.code yX3_join cX3_join 3 none) cX3_join 3 2 none := ⟨rfl, q_262, q_260, q_261, q_3, by decide, by decide, by decide +kernel⟩
theorem mi_X3_part : MI yX3_part (.code yX3_part cX3_part 3 none) cX3_part 3 1 none := ⟨rfl, q_613, q_611, q_612, q_3, by decide, by decide, by decide +kernel⟩
theorem mi_X3_size : MI yX3_size (.code yX3_size cX3_size 3 (some (.int))) cX3_size 3 0 (some (.int)) := ⟨rfl, q_241, q_239, q_240, q_3, by decide, by decide, by decide +kernel⟩
theorem mi_X3_swapAlong : MI yX3_swapAlong (.code yX3_swapAlong cX3_swapAlong 4 none) cX3_swapAlong 4 2 none := ⟨rfl, q_258, q_256, q_257, q_3, by decide, by decide, by decide +kernel⟩
theorem mi_X4_learn : MI yX4_learn (.code yX4_learn cX4_learn 3 none) cX4_learn 3 0 none := ⟨rfl, q_274, q_273, qs_6, q_8, by decide, by decide, by decide +kernel⟩
theorem mi_X4_findOut : MI yX4_findOut (.code yX4_findOut cX4_findOut 10 none) cX4_findOut 10 2 none := ⟨rfl, q_283, q_282, qs_7, q_8, by decide, by decide, by decide +kernel⟩
theorem mi_X4_number : MI yX4_number (.code yX4_number cX4_number 1 (some (.int))) cX4_number 1 0 (some (.int)) := ⟨rfl, q_357, q_355, q_356, q_8, by decide, by decide, by decide +kernel⟩
theorem mi_X4_howMany : MI yX4_howMany (.code yX4_howMany cX4_howMany 1 (some (.int))) cX4_howMany 1 0 (some (.int)) := ⟨rfl, q_369, q_367, q_368, q_8, by decide, by decide, by decide +kernel⟩
theorem mi_X4_exposing : MI yX4_exposing (.code yX4_exposing cX4_exposing 4 (some (.int))) cX4_exposing 4 1 (some (.int)) := ⟨rfl, q_501, q_499, q_500, q_8, by decide, by decide, by decide +kernel⟩
theorem mi_X4_exposable : MI yX4_exposable (.code yX4_exposable cX4_exposable 4 (some (.int))) cX4_exposable 4 0 (some (.int)) := ⟨rfl, q_326, q_324, q_325, q_8, by decide, by decide, by decide +kernel⟩
theorem mi_X4_isCritical : MI yX4_isCritical (.code yX4_isCritical cX4_isCritical 3 (some (.boolean))) cX4_isCritical 3 0 (some (.boolean)) := ⟨rfl, q_393, q_391, q_392, q_8, by decide, by decide, by decide +kernel⟩
theorem mi_X4_numberWithout : MI yX4_numberWithout (.code yX4_numberWithout cX4_numberWithout 4 (some (.int))) cX4_numberWithout 4 2 (some (.int)) := ⟨rfl, q_728, q_726, q_727, q_8, by decide, by decide, by decide +kernel⟩
theorem mi_X4_having : MI yX4_having (.code yX4_having cX4_having 5 (some (.int))) cX4_having 5 2 (some (.int)) := ⟨rfl, q_373, q_371, q_372, q_8, by decide, by decide, by decide +kernel⟩
theorem mi_X4_edgesHadBy : MI yX4_edgesHadBy (.code yX4_edgesHadBy cX4_edgesHadBy 5 (some (.int))) cX4_edgesHadBy 5 1 (some (.int)) := ⟨rfl, q_388, q_386, q_387, q_8, by decide, by decide, by decide +kernel⟩
theorem mi_X4_first : MI yX4_first (.code yX4_first cX4_first 1 (some (.object "MatchingGraph$Matching"))) cX4_first 1 0 (some (.object "MatchingGraph$Matching")) := ⟨rfl, q_270, q_268, q_269, q_8, by decide, by decide, by decide +kernel⟩
theorem mi_X4_findFirst : MI yX4_findFirst (.code yX4_findFirst cX4_findFirst 4 none) cX4_findFirst 4 0 none := ⟨rfl, q_287, q_286, qs_8, q_8, by decide, by decide, by decide +kernel⟩
theorem mi_X4_leastMate : MI yX4_leastMate (.code yX4_leastMate cX4_leastMate 6 (some (.int))) cX4_leastMate 6 2 (some (.int)) := ⟨rfl, q_295, q_294, qs_9, q_8, by decide, by decide, by decide +kernel⟩
theorem mi_X5_numberPairs : MI yX5_numberPairs (.code yX5_numberPairs cX5_numberPairs 4 none) cX5_numberPairs 4 0 none := ⟨rfl, q_237, q_236, qs_3, q_7, by decide, by decide, by decide +kernel⟩
theorem mi_X5_findEnds : MI yX5_findEnds (.code yX5_findEnds cX5_findEnds 4 none) cX5_findEnds 4 1 none := ⟨rfl, q_516, q_514, q_515, q_7, by decide, by decide, by decide +kernel⟩
theorem mi_X5_followFrom : MI yX5_followFrom (.code yX5_followFrom cX5_followFrom 6 none) cX5_followFrom 6 3 none := ⟨rfl, q_520, q_519, qs_17, q_7, by decide, by decide, by decide +kernel⟩
theorem mi_X5_findWay : MI yX5_findWay (.code yX5_findWay cX5_findWay 4 (some (.int))) cX5_findWay 4 1 (some (.int)) := ⟨rfl, q_233, q_231, q_232, q_7, by decide, by decide, by decide +kernel⟩
theorem mi_X5_followWay : MI yX5_followWay (.code yX5_followWay cX5_followWay 6 (some (.boolean))) cX5_followWay 6 3 (some (.boolean)) := ⟨rfl, q_246, q_245, qs_4, q_7, by decide, by decide, by decide +kernel⟩
theorem mi_X5_followWayTo : MI yX5_followWayTo (.code yX5_followWayTo cX5_followWayTo 6 (some (.boolean))) cX5_followWayTo 6 4 (some (.boolean)) := ⟨rfl, q_254, q_253, qs_5, q_7, by decide, by decide, by decide +kernel⟩
theorem mi_X6_begin : MI yX6_begin (.code yX6_begin cX6_begin 3 (some (.int))) cX6_begin 3 1 (some (.int)) := ⟨rfl, q_591, q_589, q_590, q_1, by decide, by decide, by decide +kernel⟩
theorem mi_X6_setEdge : MI yX6_setEdge (.code yX6_setEdge cX6_setEdge 5 (some (.int))) cX6_setEdge 5 3 (some (.int)) := ⟨rfl, q_605, q_603, q_604, q_1, by decide, by decide, by decide +kernel⟩
theorem mi_X6_append : MI yX6_append (.code yX6_append cX6_append 2 (some (.int))) cX6_append 2 1 (some (.int)) := ⟨rfl, q_621, q_619, q_620, q_1, by decide, by decide, by decide +kernel⟩
theorem mi_X6_clearInput : MI yX6_clearInput (.code yX6_clearInput cX6_clearInput 2 (some (.int))) cX6_clearInput 2 0 (some (.int)) := ⟨rfl, q_187, q_185, q_186, q_1, by decide, by decide, by decide +kernel⟩
theorem mi_X6_firstError : MI yX6_firstError (.code yX6_firstError cX6_firstError 1 (some (.int))) cX6_firstError 1 0 (some (.int)) := ⟨rfl, q_191, q_189, q_190, q_1, by decide, by decide, by decide +kernel⟩
theorem mi_X6_load : MI yX6_load (.code yX6_load cX6_load 4 (some (.int))) cX6_load 4 0 (some (.int)) := ⟨rfl, q_634, q_632, q_633, q_1, by decide, by decide, by decide +kernel⟩
theorem mi_X6_addRead : MI yX6_addRead (.code yX6_addRead cX6_addRead 5 (some (.int))) cX6_addRead 5 3 (some (.int)) := ⟨rfl, q_648, q_647, qs_22, q_1, by decide, by decide, by decide +kernel⟩
theorem mi_X6_match : MI yX6_match (.code yX6_match cX6_match 3 (some (.int))) cX6_match 3 2 (some (.int)) := ⟨rfl, q_656, q_654, q_655, q_1, by decide, by decide, by decide +kernel⟩
theorem mi_X6_unmatch : MI yX6_unmatch (.code yX6_unmatch cX6_unmatch 3 (some (.int))) cX6_unmatch 3 1 (some (.int)) := ⟨rfl, q_664, q_662, q_663, q_1, by decide, by decide, by decide +kernel⟩
theorem mi_X6_augment : MI yX6_augment (.code yX6_augment cX6_augment 2 (some (.int))) cX6_augment 2 1 (some (.int)) := ⟨rfl, q_672, q_670, q_671, q_1, by decide, by decide, by decide +kernel⟩
theorem mi_X6_maximize : MI yX6_maximize (.code yX6_maximize cX6_maximize 2 (some (.int))) cX6_maximize 2 0 (some (.int)) := ⟨rfl, q_207, q_205, q_206, q_1, by decide, by decide, by decide +kernel⟩
theorem mi_X6_augmentLowest : MI yX6_augmentLowest (.code yX6_augmentLowest cX6_augmentLowest 2 (some (.boolean))) cX6_augmentLowest 2 0 (some (.boolean)) := ⟨rfl, q_221, q_220, qs_1, q_1, by decide, by decide, by decide +kernel⟩
theorem mi_X6_augmentFrom : MI yX6_augmentFrom (.code yX6_augmentFrom cX6_augmentFrom 3 (some (.int))) cX6_augmentFrom 3 1 (some (.int)) := ⟨rfl, q_229, q_228, qs_2, q_1, by decide, by decide, by decide +kernel⟩
theorem mi_X6_takeFirst : MI yX6_takeFirst (.code yX6_takeFirst cX6_takeFirst 5 (some (.int))) cX6_takeFirst 5 0 (some (.int)) := ⟨rfl, q_266, q_264, q_265, q_1, by decide, by decide, by decide +kernel⟩
theorem mi_X6_undo : MI yX6_undo (.code yX6_undo cX6_undo 1 (some (.int))) cX6_undo 1 0 (some (.int)) := ⟨rfl, q_679, q_677, q_678, q_1, by decide, by decide, by decide +kernel⟩
theorem mi_X6_way : MI yX6_way (.code yX6_way cX6_way 2 (some (.int))) cX6_way 2 1 (some (.int)) := ⟨rfl, q_524, q_522, q_523, q_1, by decide, by decide, by decide +kernel⟩
theorem mi_X6_wayNode : MI yX6_wayNode (.code yX6_wayNode cX6_wayNode 4 (some (.int))) cX6_wayNode 4 2 (some (.int)) := ⟨rfl, q_701, q_699, q_700, q_1, by decide, by decide, by decide +kernel⟩
theorem mi_X6_reach : MI yX6_reach (.code yX6_reach cX6_reach 3 (some (.int))) cX6_reach 3 2 (some (.int)) := ⟨rfl, q_512, q_510, q_511, q_1, by decide, by decide, by decide +kernel⟩
theorem mi_X6_oddCycle : MI yX6_oddCycle (.code yX6_oddCycle cX6_oddCycle 4 (some (.int))) cX6_oddCycle 4 0 (some (.int)) := ⟨rfl, q_309, q_307, q_308, q_1, by decide, by decide, by decide +kernel⟩
theorem mi_X6_firstMate : MI yX6_firstMate (.code yX6_firstMate cX6_firstMate 2 (some (.int))) cX6_firstMate 2 1 (some (.int)) := ⟨rfl, q_508, q_506, q_507, q_1, by decide, by decide, by decide +kernel⟩
theorem mi_X6_proof : MI yX6_proof (.code yX6_proof cX6_proof 7 (some (.int))) cX6_proof 7 0 (some (.int)) := ⟨rfl, q_321, q_319, q_320, q_1, by decide, by decide, by decide +kernel⟩
theorem mi_X6_isProof : MI yX6_isProof (.code yX6_isProof cX6_isProof 3 (some (.boolean))) cX6_isProof 3 2 (some (.boolean)) := ⟨rfl, q_336, q_335, qs_11, q_1, by decide, by decide, by decide +kernel⟩
theorem mi_X6_components : MI yX6_components (.code yX6_components cX6_components 3 (some (.int))) cX6_components 3 2 (some (.int)) := ⟨rfl, q_716, q_714, q_715, q_1, by decide, by decide, by decide +kernel⟩
theorem mi_X6_ifChanged : MI yX6_ifChanged (.code yX6_ifChanged cX6_ifChanged 4 (some (.int))) cX6_ifChanged 4 2 (some (.int)) := ⟨rfl, q_724, q_722, q_723, q_1, by decide, by decide, by decide +kernel⟩
theorem mi_X6_node : MI yX6_node (.code yX6_node cX6_node 3 (some (.int))) cX6_node 3 2 (some (.int)) := ⟨rfl, q_473, q_471, q_472, q_1, by decide, by decide, by decide +kernel⟩
theorem mi_X6_partOf : MI yX6_partOf (.code yX6_partOf cX6_partOf 3 (some (.int))) cX6_partOf 3 1 (some (.int)) := ⟨rfl, q_497, q_496, qs_16, q_1, by decide, by decide, by decide +kernel⟩
theorem mi_X6_edge : MI yX6_edge (.code yX6_edge cX6_edge 4 (some (.int))) cX6_edge 4 3 (some (.int)) := ⟨rfl, q_552, q_550, q_551, q_1, by decide, by decide, by decide +kernel⟩
theorem mi_X6_count : MI yX6_count (.code yX6_count cX6_count 2 (some (.int))) cX6_count 2 1 (some (.int)) := ⟨rfl, q_383, q_381, q_382, q_1, by decide, by decide, by decide +kernel⟩
theorem mi_X6_deficiency : MI yX6_deficiency (.code yX6_deficiency cX6_deficiency 1 (some (.int))) cX6_deficiency 1 0 (some (.int)) := ⟨rfl, q_353, q_352, qs_12, q_1, by decide, by decide, by decide +kernel⟩
theorem mi_X6_difference : MI yX6_difference (.code yX6_difference cX6_difference 8 (some (.int))) cX6_difference 8 1 (some (.int)) := ⟨rfl, q_560, q_558, q_559, q_1, by decide, by decide, by decide +kernel⟩
theorem mi_X6_drawDifferences : MI yX6_drawDifferences (.code yX6_drawDifferences cX6_drawDifferences 5 none) cX6_drawDifferences 5 1 none := ⟨rfl, q_565, q_564, qs_20, q_1, by decide, by decide, by decide +kernel⟩
theorem mi_X6_meanUse : MI yX6_meanUse (.code yX6_meanUse cX6_meanUse 5 (some (.double))) cX6_meanUse 5 0 (some (.double)) := ⟨rfl, q_361, q_359, q_360, q_1, by decide, by decide, by decide +kernel⟩
theorem mi_X6_digest : MI yX6_digest (.code yX6_digest cX6_digest 5 (some (.long))) cX6_digest 5 0 (some (.long)) := ⟨rfl, q_378, q_376, q_377, q_1, by decide, by decide, by decide +kernel⟩
theorem mi_X6_mixNode : MI yX6_mixNode (.code yX6_mixNode cX6_mixNode 7 (some (.long))) cX6_mixNode 7 2 (some (.long)) := ⟨rfl, q_469, q_468, qs_14, q_1, by decide, by decide, by decide +kernel⟩
theorem mi_X6_mixPair : MI yX6_mixPair (.code yX6_mixPair cX6_mixPair 8 (some (.long))) cX6_mixPair 8 3 (some (.long)) := ⟨rfl, q_548, q_547, qs_19, q_1, by decide, by decide, by decide +kernel⟩
theorem mi_X6_mixInput : MI yX6_mixInput (.code yX6_mixInput cX6_mixInput 6 (some (.long))) cX6_mixInput 6 1 (some (.long)) := ⟨rfl, q_583, q_582, qs_21, q_1, by decide, by decide, by decide +kernel⟩
theorem mi_X6_mix : MS yX6_mix (.code yX6_mix cX6_mix 4 (some (.long))) cX6_mix 4 2 (some (.long)) := ⟨rfl, q_464, q_463, q_1, by decide, by decide, by decide +kernel⟩
theorem mi_X6_requireNode : MI yX6_requireNode (.code yX6_requireNode cX6_requireNode 2 none) cX6_requireNode 2 1 none := ⟨rfl, q_477, q_476, qs_15, q_1, by decide, by decide, by decide +kernel⟩
theorem mi_X6_requireDifferent : MS yX6_requireDifferent (.code yX6_requireDifferent cX6_requireDifferent 2 none) cX6_requireDifferent 2 2 none := ⟨rfl, q_608, q_607, q_1, by decide, by decide, by decide +kernel⟩
theorem mi_X6_requireExposed : MI yX6_requireExposed (.code yX6_requireExposed cX6_requireExposed 2 none) cX6_requireExposed 2 1 none := ⟨rfl, q_528, q_527, qs_18, q_1, by decide, by decide, by decide +kernel⟩
theorem mi_X7_thrown : MI yX7_thrown (.code yX7_thrown cX7_thrown 1 (some (.int))) cX7_thrown 1 0 (some (.int)) := ⟨rfl, q_819, q_817, q_818, q_9, by decide, by decide, by decide +kernel⟩
theorem mi_X7_within : MS yX7_within (.code yX7_within cX7_within 3 (some (.boolean))) cX7_within 3 3 (some (.boolean)) := ⟨rfl, q_826, q_825, q_9, by decide, by decide, by decide +kernel⟩
theorem mi_X7_has : MS yX7_has (.code yX7_has cX7_has 2 (some (.boolean))) cX7_has 2 2 (some (.boolean)) := ⟨rfl, q_841, q_840, q_9, by decide, by decide, by decide +kernel⟩
theorem mi_X7_bits : MS yX7_bits (.code yX7_bits cX7_bits 3 (some (.int))) cX7_bits 3 1 (some (.int)) := ⟨rfl, q_988, q_987, q_9, by decide, by decide, by decide +kernel⟩
theorem mi_X7_isNode : MI yX7_isNode (.code yX7_isNode cX7_isNode 2 (some (.boolean))) cX7_isNode 2 1 (some (.boolean)) := ⟨rfl, q_834, q_833, qs_24, q_9, by decide, by decide, by decide +kernel⟩
theorem mi_X7_all : MI yX7_all (.code yX7_all cX7_all 1 (some (.int))) cX7_all 1 0 (some (.int)) := ⟨rfl, q_933, q_932, qs_39, q_9, by decide, by decide, by decide +kernel⟩
theorem mi_X7_clearAll : MI yX7_clearAll (.code yX7_clearAll cX7_clearAll 2 none) cX7_clearAll 2 0 none := ⟨rfl, q_757, q_756, qs_23, q_9, by decide, by decide, by decide +kernel⟩
theorem mi_X7_flip : MI yX7_flip (.code yX7_flip cX7_flip 3 none) cX7_flip 3 2 none := ⟨rfl, q_845, q_844, qs_26, q_9, by decide, by decide, by decide +kernel⟩
theorem mi_X7_pair : MI yX7_pair (.code yX7_pair cX7_pair 3 none) cX7_pair 3 2 none := ⟨rfl, q_877, q_876, qs_30, q_9, by decide, by decide, by decide +kernel⟩
theorem mi_X7_part : MI yX7_part (.code yX7_part cX7_part 2 none) cX7_part 2 1 none := ⟨rfl, q_849, q_848, qs_27, q_9, by decide, by decide, by decide +kernel⟩
theorem mi_X7_keep : MI yX7_keep (.code yX7_keep cX7_keep 2 none) cX7_keep 2 0 none := ⟨rfl, q_838, q_837, qs_25, q_9, by decide, by decide, by decide +kernel⟩
theorem mi_X7_note : MI yX7_note (.code yX7_note cX7_note 4 none) cX7_note 4 3 none := ⟨rfl, q_937, q_936, qs_40, q_9, by decide, by decide, by decide +kernel⟩
theorem mi_X7_laySets : MI yX7_laySets (.code yX7_laySets cX7_laySets 5 none) cX7_laySets 5 0 none := ⟨rfl, q_929, q_928, qs_38, q_9, by decide, by decide, by decide +kernel⟩
theorem mi_X7_layFirst : MI yX7_layFirst (.code yX7_layFirst cX7_layFirst 5 none) cX7_layFirst 5 0 none := ⟨rfl, q_941, q_940, qs_41, q_9, by decide, by decide, by decide +kernel⟩
theorem mi_X7_exposing : MI yX7_exposing (.code yX7_exposing cX7_exposing 3 (some (.int))) cX7_exposing 3 1 (some (.int)) := ⟨rfl, q_1020, q_1019, qs_50, q_9, by decide, by decide, by decide +kernel⟩
theorem mi_X7_using : MI yX7_using (.code yX7_using cX7_using 5 (some (.int))) cX7_using 5 2 (some (.int)) := ⟨rfl, q_1036, q_1035, qs_53, q_9, by decide, by decide, by decide +kernel⟩
theorem mi_X7_partOf : MI yX7_partOf (.code yX7_partOf cX7_partOf 4 (some (.int))) cX7_partOf 4 1 (some (.int)) := ⟨rfl, q_1016, q_1015, qs_49, q_9, by decide, by decide, by decide +kernel⟩
theorem mi_X7_isCritical : MI yX7_isCritical (.code yX7_isCritical cX7_isCritical 3 (some (.boolean))) cX7_isCritical 3 0 (some (.boolean)) := ⟨rfl, q_1056, q_1055, qs_57, q_9, by decide, by decide, by decide +kernel⟩
theorem mi_X7_componentOf : MI yX7_componentOf (.code yX7_componentOf cX7_componentOf 6 (some (.int))) cX7_componentOf 6 2 (some (.int)) := ⟨rfl, q_996, q_995, qs_47, q_9, by decide, by decide, by decide +kernel⟩
theorem mi_X7_componentsOf : MI yX7_componentsOf (.code yX7_componentsOf cX7_componentsOf 7 (some (.int))) cX7_componentsOf 7 2 (some (.int)) := ⟨rfl, q_992, q_991, qs_46, q_9, by decide, by decide, by decide +kernel⟩
theorem mi_X7_lowest : MI yX7_lowest (.code yX7_lowest cX7_lowest 4 (some (.int))) cX7_lowest 4 1 (some (.int)) := ⟨rfl, q_1024, q_1023, qs_51, q_9, by decide, by decide, by decide +kernel⟩
theorem mi_X7_proofNow : MI yX7_proofNow (.code yX7_proofNow cX7_proofNow 6 (some (.int))) cX7_proofNow 6 0 (some (.int)) := ⟨rfl, q_985, q_984, qs_45, q_9, by decide, by decide, by decide +kernel⟩
theorem mi_X7_step : MI yX7_step (.code yX7_step cX7_step 5 (some (.int))) cX7_step 5 3 (some (.int)) := ⟨rfl, q_913, q_912, qs_36, q_9, by decide, by decide, by decide +kernel⟩
theorem mi_X7_goThrough : MI yX7_goThrough (.code yX7_goThrough cX7_goThrough 6 (some (.boolean))) cX7_goThrough 6 2 (some (.boolean)) := ⟨rfl, q_909, q_908, qs_35, q_9, by decide, by decide, by decide +kernel⟩
theorem mi_X7_layWay : MI yX7_layWay (.code yX7_layWay cX7_layWay 3 (some (.int))) cX7_layWay 3 1 (some (.int)) := ⟨rfl, q_905, q_904, qs_34, q_9, by decide, by decide, by decide +kernel⟩
theorem mi_X7_layReach : MI yX7_layReach (.code yX7_layReach cX7_layReach 2 none) cX7_layReach 2 1 none := ⟨rfl, q_961, q_960, qs_42, q_9, by decide, by decide, by decide +kernel⟩
theorem mi_X7_augmentFrom : MI yX7_augmentFrom (.code yX7_augmentFrom cX7_augmentFrom 4 (some (.int))) cX7_augmentFrom 4 1 (some (.int)) := ⟨rfl, q_901, q_900, qs_33, q_9, by decide, by decide, by decide +kernel⟩
theorem mi_X7_begin : MI yX7_begin (.code yX7_begin cX7_begin 3 (some (.int))) cX7_begin 3 1 (some (.int)) := ⟨rfl, q_823, q_821, q_822, q_9, by decide, by decide, by decide +kernel⟩
theorem mi_X7_setEdge : MI yX7_setEdge (.code yX7_setEdge cX7_setEdge 5 (some (.int))) cX7_setEdge 5 3 (some (.int)) := ⟨rfl, q_830, q_828, q_829, q_9, by decide, by decide, by decide +kernel⟩
theorem mi_X7_append : MI yX7_append (.code yX7_append cX7_append 2 (some (.int))) cX7_append 2 1 (some (.int)) := ⟨rfl, q_853, q_851, q_852, q_9, by decide, by decide, by decide +kernel⟩
theorem mi_X7_clearInput : MI yX7_clearInput (.code yX7_clearInput cX7_clearInput 2 (some (.int))) cX7_clearInput 2 0 (some (.int)) := ⟨rfl, q_857, q_855, q_856, q_9, by decide, by decide, by decide +kernel⟩
theorem mi_X7_takes : MI yX7_takes (.code yX7_takes cX7_takes 4 (some (.boolean))) cX7_takes 4 1 (some (.boolean)) := ⟨rfl, q_869, q_868, qs_29, q_9, by decide, by decide, by decide +kernel⟩
theorem mi_X7_rightLength : MI yX7_rightLength (.code yX7_rightLength cX7_rightLength 2 (some (.int))) cX7_rightLength 2 0 (some (.int)) := ⟨rfl, q_865, q_864, qs_28, q_9, by decide, by decide, by decide +kernel⟩
theorem mi_X7_firstError : MI yX7_firstError (.code yX7_firstError cX7_firstError 1 (some (.int))) cX7_firstError 1 0 (some (.int)) := ⟨rfl, q_861, q_859, q_860, q_9, by decide, by decide, by decide +kernel⟩
theorem mi_X7_load : MI yX7_load (.code yX7_load cX7_load 5 (some (.int))) cX7_load 5 0 (some (.int)) := ⟨rfl, q_873, q_871, q_872, q_9, by decide, by decide, by decide +kernel⟩
theorem mi_X7_size : MI yX7_size (.code yX7_size cX7_size 3 (some (.int))) cX7_size 3 0 (some (.int)) := ⟨rfl, q_885, q_884, qs_31, q_9, by decide, by decide, by decide +kernel⟩
theorem mi_X7_match : MI yX7_match (.code yX7_match cX7_match 4 (some (.int))) cX7_match 4 2 (some (.int)) := ⟨rfl, q_881, q_879, q_880, q_9, by decide, by decide, by decide +kernel⟩
theorem mi_X7_unmatch : MI yX7_unmatch (.code yX7_unmatch cX7_unmatch 3 (some (.int))) cX7_unmatch 3 1 (some (.int)) := ⟨rfl, q_889, q_887, q_888, q_9, by decide, by decide, by decide +kernel⟩
theorem mi_X7_exposedFault : MI yX7_exposedFault (.code yX7_exposedFault cX7_exposedFault 2 (some (.int))) cX7_exposedFault 2 1 (some (.int)) := ⟨rfl, q_897, q_896, qs_32, q_9, by decide, by decide, by decide +kernel⟩
theorem mi_X7_augment : MI yX7_augment (.code yX7_augment cX7_augment 2 (some (.int))) cX7_augment 2 1 (some (.int)) := ⟨rfl, q_893, q_891, q_892, q_9, by decide, by decide, by decide +kernel⟩
theorem mi_X7_lowestWithWay : MI yX7_lowestWithWay (.code yX7_lowestWithWay cX7_lowestWithWay 2 (some (.int))) cX7_lowestWithWay 2 0 (some (.int)) := ⟨rfl, q_921, q_920, qs_37, q_9, by decide, by decide, by decide +kernel⟩
theorem mi_X7_maximize : MI yX7_maximize (.code yX7_maximize cX7_maximize 3 (some (.int))) cX7_maximize 3 0 (some (.int)) := ⟨rfl, q_917, q_915, q_916, q_9, by decide, by decide, by decide +kernel⟩
theorem mi_X7_takeFirst : MI yX7_takeFirst (.code yX7_takeFirst cX7_takeFirst 3 (some (.int))) cX7_takeFirst 3 0 (some (.int)) := ⟨rfl, q_925, q_923, q_924, q_9, by decide, by decide, by decide +kernel⟩
theorem mi_X7_undo : MI yX7_undo (.code yX7_undo cX7_undo 2 (some (.int))) cX7_undo 2 0 (some (.int)) := ⟨rfl, q_945, q_943, q_944, q_9, by decide, by decide, by decide +kernel⟩
theorem mi_X7_way : MI yX7_way (.code yX7_way cX7_way 2 (some (.int))) cX7_way 2 1 (some (.int)) := ⟨rfl, q_949, q_947, q_948, q_9, by decide, by decide, by decide +kernel⟩
theorem mi_X7_wayNode : MI yX7_wayNode (.code yX7_wayNode cX7_wayNode 4 (some (.int))) cX7_wayNode 4 2 (some (.int)) := ⟨rfl, q_953, q_951, q_952, q_9, by decide, by decide, by decide +kernel⟩
theorem mi_X7_reach : MI yX7_reach (.code yX7_reach cX7_reach 3 (some (.int))) cX7_reach 3 2 (some (.int)) := ⟨rfl, q_957, q_955, q_956, q_9, by decide, by decide, by decide +kernel⟩
theorem mi_X7_oddWalk : MI yX7_oddWalk (.code yX7_oddWalk cX7_oddWalk 8 (some (.int))) cX7_oddWalk 8 1 (some (.int)) := ⟨rfl, q_973, q_972, qs_44, q_9, by decide, by decide, by decide +kernel⟩
theorem mi_X7_oddCycleNow : MI yX7_oddCycleNow (.code yX7_oddCycleNow cX7_oddCycleNow 4 (some (.int))) cX7_oddCycleNow 4 0 (some (.int)) := ⟨rfl, q_969, q_968, qs_43, q_9, by decide, by decide, by decide +kernel⟩
theorem mi_X7_oddCycle : MI yX7_oddCycle (.code yX7_oddCycle cX7_oddCycle 1 (some (.int))) cX7_oddCycle 1 0 (some (.int)) := ⟨rfl, q_965, q_963, q_964, q_9, by decide, by decide, by decide +kernel⟩
theorem mi_X7_firstMate : MI yX7_firstMate (.code yX7_firstMate cX7_firstMate 2 (some (.int))) cX7_firstMate 2 1 (some (.int)) := ⟨rfl, q_977, q_975, q_976, q_9, by decide, by decide, by decide +kernel⟩
theorem mi_X7_proof : MI yX7_proof (.code yX7_proof cX7_proof 1 (some (.int))) cX7_proof 1 0 (some (.int)) := ⟨rfl, q_981, q_979, q_980, q_9, by decide, by decide, by decide +kernel⟩
theorem mi_X7_components : MI yX7_components (.code yX7_components cX7_components 3 (some (.int))) cX7_components 3 2 (some (.int)) := ⟨rfl, q_1000, q_998, q_999, q_9, by decide, by decide, by decide +kernel⟩
theorem mi_X7_ifChanged : MI yX7_ifChanged (.code yX7_ifChanged cX7_ifChanged 3 (some (.int))) cX7_ifChanged 3 2 (some (.int)) := ⟨rfl, q_1004, q_1002, q_1003, q_9, by decide, by decide, by decide +kernel⟩
theorem mi_X7_nodeNow : MI yX7_nodeNow (.code yX7_nodeNow cX7_nodeNow 3 (some (.int))) cX7_nodeNow 3 2 (some (.int)) := ⟨rfl, q_1012, q_1011, qs_48, q_9, by decide, by decide, by decide +kernel⟩
theorem mi_X7_node : MI yX7_node (.code yX7_node cX7_node 3 (some (.int))) cX7_node 3 2 (some (.int)) := ⟨rfl, q_1008, q_1006, q_1007, q_9, by decide, by decide, by decide +kernel⟩
theorem mi_X7_edgeNow : MI yX7_edgeNow (.code yX7_edgeNow cX7_edgeNow 5 (some (.int))) cX7_edgeNow 5 3 (some (.int)) := ⟨rfl, q_1032, q_1031, qs_52, q_9, by decide, by decide, by decide +kernel⟩
theorem mi_X7_edge : MI yX7_edge (.code yX7_edge cX7_edge 4 (some (.int))) cX7_edge 4 3 (some (.int)) := ⟨rfl, q_1028, q_1026, q_1027, q_9, by decide, by decide, by decide +kernel⟩
theorem mi_X7_edgeCount : MI yX7_edgeCount (.code yX7_edgeCount cX7_edgeCount 3 (some (.int))) cX7_edgeCount 3 0 (some (.int)) := ⟨rfl, q_1048, q_1047, qs_55, q_9, by decide, by decide, by decide +kernel⟩
theorem mi_X7_edgesIn : MI yX7_edgesIn (.code yX7_edgesIn cX7_edgesIn 5 (some (.int))) cX7_edgesIn 5 1 (some (.int)) := ⟨rfl, q_1052, q_1051, qs_56, q_9, by decide, by decide, by decide +kernel⟩
theorem mi_X7_counted : MI yX7_counted (.code yX7_counted cX7_counted 2 (some (.int))) cX7_counted 2 1 (some (.int)) := ⟨rfl, q_1044, q_1043, qs_54, q_9, by decide, by decide, by decide +kernel⟩
theorem mi_X7_count : MI yX7_count (.code yX7_count cX7_count 2 (some (.int))) cX7_count 2 1 (some (.int)) := ⟨rfl, q_1040, q_1038, q_1039, q_9, by decide, by decide, by decide +kernel⟩
theorem mi_X7_differs : MI yX7_differs (.code yX7_differs cX7_differs 2 (some (.boolean))) cX7_differs 2 1 (some (.boolean)) := ⟨rfl, q_1068, q_1067, qs_59, q_9, by decide, by decide, by decide +kernel⟩
theorem mi_X7_joined : MI yX7_joined (.code yX7_joined cX7_joined 5 (some (.int))) cX7_joined 5 1 (some (.int)) := ⟨rfl, q_1072, q_1071, qs_60, q_9, by decide, by decide, by decide +kernel⟩
theorem mi_X7_isRing : MI yX7_isRing (.code yX7_isRing cX7_isRing 4 (some (.boolean))) cX7_isRing 4 1 (some (.boolean)) := ⟨rfl, q_1076, q_1075, qs_61, q_9, by decide, by decide, by decide +kernel⟩
theorem mi_X7_differenceNow : MI yX7_differenceNow (.code yX7_differenceNow cX7_differenceNow 6 (some (.int))) cX7_differenceNow 6 1 (some (.int)) := ⟨rfl, q_1064, q_1063, qs_58, q_9, by decide, by decide, by decide +kernel⟩
theorem mi_X7_difference : MI yX7_difference (.code yX7_difference cX7_difference 2 (some (.int))) cX7_difference 2 1 (some (.int)) := ⟨rfl, q_1060, q_1058, q_1059, q_9, by decide, by decide, by decide +kernel⟩
theorem mi_X7_meanUse : MI yX7_meanUse (.code yX7_meanUse cX7_meanUse 4 (some (.double))) cX7_meanUse 4 0 (some (.double)) := ⟨rfl, q_1080, q_1078, q_1079, q_9, by decide, by decide, by decide +kernel⟩
theorem mi_X7_mix : MI yX7_mix (.code yX7_mix cX7_mix 3 none) cX7_mix 3 1 none := ⟨rfl, q_1089, q_1088, qs_62, q_9, by decide, by decide, by decide +kernel⟩
theorem mi_X7_mixNode : MI yX7_mixNode (.code yX7_mixNode cX7_mixNode 3 none) cX7_mixNode 3 1 none := ⟨rfl, q_1094, q_1093, qs_63, q_9, by decide, by decide, by decide +kernel⟩
theorem mi_X7_mixPairs : MI yX7_mixPairs (.code yX7_mixPairs cX7_mixPairs 4 none) cX7_mixPairs 4 0 none := ⟨rfl, q_1098, q_1097, qs_64, q_9, by decide, by decide, by decide +kernel⟩
theorem mi_X7_digest : MI yX7_digest (.code yX7_digest cX7_digest 2 (some (.long))) cX7_digest 2 0 (some (.long)) := ⟨rfl, q_1084, q_1082, q_1083, q_9, by decide, by decide, by decide +kernel⟩
theorem mi_J6_numberOfTrailingZeros_0f7a4 : MS yJ6_numberOfTrailingZeros_0f7a4 (.code yJ6_numberOfTrailingZeros_0f7a4 cJ6_numberOfTrailingZeros_0f7a4 2 (some (.int))) cJ6_numberOfTrailingZeros_0f7a4 2 1 (some (.int)) := ⟨rfl, q_347, q_346, q_18, by decide, by decide, by decide +kernel⟩
theorem mi_J6_bitCount_0f7a4 : MS yJ6_bitCount_0f7a4 (.code yJ6_bitCount_0f7a4 cJ6_bitCount_0f7a4 1 (some (.int))) cJ6_bitCount_0f7a4 1 1 (some (.int)) := ⟨rfl, q_329, q_328, q_18, by decide, by decide, by decide +kernel⟩
theorem mi_J9_max_7cf53 : MS yJ9_max_7cf53 (.code yJ9_max_7cf53 cJ9_max_7cf53 2 (some (.int))) cJ9_max_7cf53 2 2 (some (.int)) := ⟨rfl, q_731, q_730, q_16, by decide, by decide, by decide +kernel⟩
theorem mi_J9_min_7cf53 : MS yJ9_min_7cf53 (.code yJ9_min_7cf53 cJ9_min_7cf53 2 (some (.int))) cJ9_min_7cf53 2 2 (some (.int)) := ⟨rfl, q_217, q_216, q_16, by decide, by decide, by decide +kernel⟩
theorem mi_J7_fill_53178 : MS yJ7_fill_53178 (.code yJ7_fill_53178 cJ7_fill_53178 4 none) cJ7_fill_53178 4 2 none := ⟨rfl, q_59, q_58, q_4, by decide, by decide, by decide +kernel⟩
theorem gt_r9 (g : Gb) (σ : WD) {j : Nat} (hj : j < 4) : (cells g σ)[9 + j]? = some (adr g (9 + j), .inl (g.2.2.1, 12, .inl (σ.1 (9 + j)))) := by
  match j, hj with
  | 0, _ => rfl
  | 1, _ => rfl
  | 2, _ => rfl
  | 3, _ => rfl
theorem st_r9 (g : Gb) (σ : WD) {j : Nat} (hj : j < 4) (f : Nat → Int32) : (cells g σ).set (9 + j) (adr g (9 + j), .inl (g.2.2.1, 12, .inl f)) = cells g (ups σ (9 + j) f) := by
  match j, hj with
  | 0, _ => rfl
  | 1, _ => rfl
  | 2, _ => rfl
  | 3, _ => rfl
theorem gt_r14 (g : Gb) (σ : WD) {j : Nat} (hj : j < 4) : (cells g σ)[14 + j]? = some (adr g (14 + j), .inl (g.2.2.1, 12, .inl (σ.1 (14 + j)))) := by
  match j, hj with
  | 0, _ => rfl
  | 1, _ => rfl
  | 2, _ => rfl
  | 3, _ => rfl
theorem st_r14 (g : Gb) (σ : WD) {j : Nat} (hj : j < 4) (f : Nat → Int32) : (cells g σ).set (14 + j) (adr g (14 + j), .inl (g.2.2.1, 12, .inl f)) = cells g (ups σ (14 + j) f) := by
  match j, hj with
  | 0, _ => rfl
  | 1, _ => rfl
  | 2, _ => rfl
  | 3, _ => rfl
theorem ix_lt {i : Int32} {n : Nat} (h : ¬ (i < 0 ∨ n ≤ i.toNatClampNeg)) : i.toNatClampNeg < n := Nat.not_le.mp fun q => h (Or.inr q)
def lt {γ : Type} (s : WD) (k : WD → Option γ) : Option γ := k s
def li {γ : Type} (v : Int32) (k : Int32 → Option γ) : Option γ := k v
def ll {γ : Type} (v : Int64) (k : Int64 → Option γ) : Option γ := k v
theorem lt_some {γ : Type} {s : WD} {k : WD → Option γ} {r : γ} (h : lt s k = some r) : ∃ s', s = s' ∧ k s' = some r := ⟨s, rfl, h⟩
theorem li_some {γ : Type} {s : Int32} {k : Int32 → Option γ} {r : γ} (h : li s k = some r) : ∃ s', s = s' ∧ k s' = some r := ⟨s, rfl, h⟩
theorem ll_some {γ : Type} {s : Int64} {k : Int64 → Option γ} {r : γ} (h : ll s k = some r) : ∃ s', s = s' ∧ k s' = some r := ⟨s, rfl, h⟩
theorem x_we {x : Cx} {g : Gb} {nL ce sl pc : Nat} {lv : List (Nat × Value)} {st : List Value} {σ σ' : WD} (e : σ = σ') (k : WW x g nL ce sl pc lv st σ') : WW x g nL ce sl pc lv st σ := e ▸ k
theorem x_te {x : Cx} {g : Gb} {nL ce sl pc : Nat} {lv : List (Nat × Value)} {st : List Value} {σ : WD} {a b : Int32} (e : a = b) (k : WW x g nL ce sl pc lv (.int b :: st) σ) : WW x g nL ce sl pc lv (.int a :: st) σ := e ▸ k
theorem x_tl {x : Cx} {g : Gb} {nL ce sl pc : Nat} {lv : List (Nat × Value)} {st : List Value} {σ : WD} {a b : Int64} (e : a = b) (k : WW x g nL ce sl pc lv (.long b :: st) σ) : WW x g nL ce sl pc lv (.long a :: st) σ := e ▸ k
theorem sw_out {a : Int32} (n : Nat) (hn : n < 1000) (h : ∀ k : Nat, k ≤ n → ¬ a = Int32.ofNat k) : a.toInt < 0 ∨ (n : Int) < a.toInt := by
  by_cases h1 : a.toInt < 0
  · exact Or.inl h1
  · by_cases h2 : (n : Int) < a.toInt
    · exact Or.inr h2
    · exfalso
      refine h a.toInt.toNat (by omega) ?_
      have h3 : Int32.ofNat a.toInt.toNat = Int32.ofInt (a.toInt.toNat : Int) := (Int32.ofInt_eq_ofNat).symm
      rw [h3, show ((a.toInt.toNat : Nat) : Int) = a.toInt by omega]
      exact (Int32.ofInt_toInt a).symm
end
