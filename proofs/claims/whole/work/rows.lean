section
-- ===== PART A: goes FIRST, ahead of the names: the tables' words, and 'selects' of the private methods out of them =====
/-- a private method of a class that the tables say can be made, by its rows of tables_1 -/
def lw_okq (q : MethodName × Nat) : Prop := (q.1.cls ≠ "java/lang/invoke/MethodHandle" ∧ q.1.cls ≠ "java/lang/invoke/VarHandle") ∧ Cond.instantiable q.1.cls q.2 ∈ tables_1 ∧ Cond.privateMethod q.1 ∈ tables_1 ∧ Cond.instanceMethod q.1 ∈ tables_1
theorem lw_p0 : lw_okq (⟨"GorgeRopes", "textOf", "(I)LGorgeRopes$Text;"⟩, 9) := ⟨⟨by decide +kernel, by decide +kernel⟩, List.mem_of_getElem? (i := 17) (by decide +kernel), List.mem_of_getElem? (i := 321) (by decide +kernel), List.mem_of_getElem? (i := 322) (by decide +kernel)⟩
theorem lw_p1 : lw_okq (⟨"GorgeRopes$Ropes", "learnRopes", "(LGorgeRopes$Text;)I"⟩, 6) := ⟨⟨by decide +kernel, by decide +kernel⟩, List.mem_of_getElem? (i := 47) (by decide +kernel), List.mem_of_getElem? (i := 338) (by decide +kernel), List.mem_of_getElem? (i := 339) (by decide +kernel)⟩
theorem lw_p2 : lw_okq (⟨"GorgeRopes$Ropes", "faultOfRight", "(LGorgeRopes$Text;)I"⟩, 6) := ⟨⟨by decide +kernel, by decide +kernel⟩, List.mem_of_getElem? (i := 47) (by decide +kernel), List.mem_of_getElem? (i := 373) (by decide +kernel), List.mem_of_getElem? (i := 374) (by decide +kernel)⟩
theorem lw_p3 : lw_okq (⟨"GorgeRopes$Ropes", "rank", "(LGorgeRopes$Text;)V"⟩, 6) := ⟨⟨by decide +kernel, by decide +kernel⟩, List.mem_of_getElem? (i := 47) (by decide +kernel), List.mem_of_getElem? (i := 381) (by decide +kernel), List.mem_of_getElem? (i := 382) (by decide +kernel)⟩
theorem lw_p4 : lw_okq (⟨"GorgeRopes$Ropes", "give", "(II)V"⟩, 6) := ⟨⟨by decide +kernel, by decide +kernel⟩, List.mem_of_getElem? (i := 47) (by decide +kernel), List.mem_of_getElem? (i := 385) (by decide +kernel), List.mem_of_getElem? (i := 386) (by decide +kernel)⟩
theorem lw_p5 : lw_okq (⟨"GorgeRopes", "crossingAsTold", "(IIII)J"⟩, 9) := ⟨⟨by decide +kernel, by decide +kernel⟩, List.mem_of_getElem? (i := 17) (by decide +kernel), List.mem_of_getElem? (i := 436) (by decide +kernel), List.mem_of_getElem? (i := 437) (by decide +kernel)⟩
theorem lw_p6 : lw_okq (⟨"GorgeRopes$Timetable", "begin", "(II)V"⟩, 2) := ⟨⟨by decide +kernel, by decide +kernel⟩, List.mem_of_getElem? (i := 174) (by decide +kernel), List.mem_of_getElem? (i := 541) (by decide +kernel), List.mem_of_getElem? (i := 542) (by decide +kernel)⟩
theorem lw_p7 : lw_okq (⟨"GorgeRopes", "guilty", "(II)I"⟩, 9) := ⟨⟨by decide +kernel, by decide +kernel⟩, List.mem_of_getElem? (i := 17) (by decide +kernel), List.mem_of_getElem? (i := 560) (by decide +kernel), List.mem_of_getElem? (i := 561) (by decide +kernel)⟩
theorem lw_p8 : lw_okq (⟨"GorgeRopes$Timetable", "delay", "(LGorgeRopes$Ropes;LGorgeRopes$Trips;II)V"⟩, 2) := ⟨⟨by decide +kernel, by decide +kernel⟩, List.mem_of_getElem? (i := 174) (by decide +kernel), List.mem_of_getElem? (i := 587) (by decide +kernel), List.mem_of_getElem? (i := 588) (by decide +kernel)⟩
theorem lw_p9 : lw_okq (⟨"GorgeRopes$Timetable", "firstInWay", "(LGorgeRopes$Ropes;LGorgeRopes$Trips;II)I"⟩, 2) := ⟨⟨by decide +kernel, by decide +kernel⟩, List.mem_of_getElem? (i := 174) (by decide +kernel), List.mem_of_getElem? (i := 592) (by decide +kernel), List.mem_of_getElem? (i := 593) (by decide +kernel)⟩
theorem lw_p10 : lw_okq (⟨"GorgeRopes$Timetable", "nextMinute", "(LGorgeRopes$Ropes;LGorgeRopes$Trips;II)I"⟩, 2) := ⟨⟨by decide +kernel, by decide +kernel⟩, List.mem_of_getElem? (i := 174) (by decide +kernel), List.mem_of_getElem? (i := 596) (by decide +kernel), List.mem_of_getElem? (i := 597) (by decide +kernel)⟩
theorem lw_p11 : lw_okq (⟨"GorgeRopes$Timetable", "windLot", "()I"⟩, 2) := ⟨⟨by decide +kernel, by decide +kernel⟩, List.mem_of_getElem? (i := 174) (by decide +kernel), List.mem_of_getElem? (i := 629) (by decide +kernel), List.mem_of_getElem? (i := 630) (by decide +kernel)⟩
theorem lw_p12 : lw_okq (⟨"GorgeRopes$Mill", "reckonAlone", "(LGorgeRopes$Rope;II)V"⟩, 10) := ⟨⟨by decide +kernel, by decide +kernel⟩, List.mem_of_getElem? (i := 187) (by decide +kernel), List.mem_of_getElem? (i := 665) (by decide +kernel), List.mem_of_getElem? (i := 666) (by decide +kernel)⟩
theorem lw_p13 : lw_okq (⟨"GorgeRopes$Mill", "keyOf", "(LGorgeRopes$Rope;II)I"⟩, 10) := ⟨⟨by decide +kernel, by decide +kernel⟩, List.mem_of_getElem? (i := 187) (by decide +kernel), List.mem_of_getElem? (i := 670) (by decide +kernel), List.mem_of_getElem? (i := 671) (by decide +kernel)⟩
theorem lw_p14 : lw_okq (⟨"GorgeRopes$Mill", "join", "()V"⟩, 10) := ⟨⟨by decide +kernel, by decide +kernel⟩, List.mem_of_getElem? (i := 187) (by decide +kernel), List.mem_of_getElem? (i := 688) (by decide +kernel), List.mem_of_getElem? (i := 689) (by decide +kernel)⟩
theorem lw_p15 : lw_okq (⟨"GorgeRopes$Mill", "all", "()I"⟩, 10) := ⟨⟨by decide +kernel, by decide +kernel⟩, List.mem_of_getElem? (i := 187) (by decide +kernel), List.mem_of_getElem? (i := 692) (by decide +kernel), List.mem_of_getElem? (i := 693) (by decide +kernel)⟩
def lw_privs_1 : List (MethodName × Nat) := [(⟨"GorgeRopes", "textOf", "(I)LGorgeRopes$Text;"⟩, 9), (⟨"GorgeRopes$Ropes", "learnRopes", "(LGorgeRopes$Text;)I"⟩, 6), (⟨"GorgeRopes$Ropes", "faultOfRight", "(LGorgeRopes$Text;)I"⟩, 6), (⟨"GorgeRopes$Ropes", "rank", "(LGorgeRopes$Text;)V"⟩, 6), (⟨"GorgeRopes$Ropes", "give", "(II)V"⟩, 6), (⟨"GorgeRopes", "crossingAsTold", "(IIII)J"⟩, 9), (⟨"GorgeRopes$Timetable", "begin", "(II)V"⟩, 2), (⟨"GorgeRopes", "guilty", "(II)I"⟩, 9), (⟨"GorgeRopes$Timetable", "delay", "(LGorgeRopes$Ropes;LGorgeRopes$Trips;II)V"⟩, 2), (⟨"GorgeRopes$Timetable", "firstInWay", "(LGorgeRopes$Ropes;LGorgeRopes$Trips;II)I"⟩, 2), (⟨"GorgeRopes$Timetable", "nextMinute", "(LGorgeRopes$Ropes;LGorgeRopes$Trips;II)I"⟩, 2), (⟨"GorgeRopes$Timetable", "windLot", "()I"⟩, 2), (⟨"GorgeRopes$Mill", "reckonAlone", "(LGorgeRopes$Rope;II)V"⟩, 10), (⟨"GorgeRopes$Mill", "keyOf", "(LGorgeRopes$Rope;II)I"⟩, 10), (⟨"GorgeRopes$Mill", "join", "()V"⟩, 10), (⟨"GorgeRopes$Mill", "all", "()I"⟩, 10)]
theorem lw_r1 : ∀ q ∈ lw_privs_1, lw_okq q := List.forall_mem_cons.mpr ⟨lw_p0, List.forall_mem_cons.mpr ⟨lw_p1, List.forall_mem_cons.mpr ⟨lw_p2, List.forall_mem_cons.mpr ⟨lw_p3, List.forall_mem_cons.mpr ⟨lw_p4, List.forall_mem_cons.mpr ⟨lw_p5, List.forall_mem_cons.mpr ⟨lw_p6, List.forall_mem_cons.mpr ⟨lw_p7, List.forall_mem_cons.mpr ⟨lw_p8, List.forall_mem_cons.mpr ⟨lw_p9, List.forall_mem_cons.mpr ⟨lw_p10, List.forall_mem_cons.mpr ⟨lw_p11, List.forall_mem_cons.mpr ⟨lw_p12, List.forall_mem_cons.mpr ⟨lw_p13, List.forall_mem_cons.mpr ⟨lw_p14, List.forall_mem_cons.mpr ⟨lw_p15, fun _ h => absurd h List.not_mem_nil⟩⟩⟩⟩⟩⟩⟩⟩⟩⟩⟩⟩⟩⟩⟩⟩
theorem lw_p16 : lw_okq (⟨"GorgeRopes$Mill", "leastJoined", "(I)I"⟩, 10) := ⟨⟨by decide +kernel, by decide +kernel⟩, List.mem_of_getElem? (i := 187) (by decide +kernel), List.mem_of_getElem? (i := 696) (by decide +kernel), List.mem_of_getElem? (i := 697) (by decide +kernel)⟩
theorem lw_p17 : lw_okq (⟨"GorgeRopes", "sentAsReckoned", "(I)I"⟩, 9) := ⟨⟨by decide +kernel, by decide +kernel⟩, List.mem_of_getElem? (i := 17) (by decide +kernel), List.mem_of_getElem? (i := 700) (by decide +kernel), List.mem_of_getElem? (i := 701) (by decide +kernel)⟩
theorem lw_p18 : lw_okq (⟨"GorgeRopes$Mill", "leastKey", "()I"⟩, 10) := ⟨⟨by decide +kernel, by decide +kernel⟩, List.mem_of_getElem? (i := 187) (by decide +kernel), List.mem_of_getElem? (i := 708) (by decide +kernel), List.mem_of_getElem? (i := 709) (by decide +kernel)⟩
theorem lw_p19 : lw_okq (⟨"GorgeRopes", "cutAsTold", "(I)I"⟩, 9) := ⟨⟨by decide +kernel, by decide +kernel⟩, List.mem_of_getElem? (i := 17) (by decide +kernel), List.mem_of_getElem? (i := 729) (by decide +kernel), List.mem_of_getElem? (i := 730) (by decide +kernel)⟩
theorem lw_p20 : lw_okq (⟨"GorgeRopes$Mill", "tryPegs", "(LGorgeRopes$Ropes;I)V"⟩, 10) := ⟨⟨by decide +kernel, by decide +kernel⟩, List.mem_of_getElem? (i := 187) (by decide +kernel), List.mem_of_getElem? (i := 747) (by decide +kernel), List.mem_of_getElem? (i := 748) (by decide +kernel)⟩
theorem lw_p21 : lw_okq (⟨"GorgeRopes$Fees", "mostGroups", "()I"⟩, 4) := ⟨⟨by decide +kernel, by decide +kernel⟩, List.mem_of_getElem? (i := 227) (by decide +kernel), List.mem_of_getElem? (i := 780) (by decide +kernel), List.mem_of_getElem? (i := 781) (by decide +kernel)⟩
theorem lw_p22 : lw_okq (⟨"GorgeRopes$Fees", "addTrip", "(I)V"⟩, 4) := ⟨⟨by decide +kernel, by decide +kernel⟩, List.mem_of_getElem? (i := 227) (by decide +kernel), List.mem_of_getElem? (i := 793) (by decide +kernel), List.mem_of_getElem? (i := 794) (by decide +kernel)⟩
theorem lw_p23 : lw_okq (⟨"GorgeRopes$Sheet", "fitted", "(I)I"⟩, 3) := ⟨⟨by decide +kernel, by decide +kernel⟩, List.mem_of_getElem? (i := 254) (by decide +kernel), List.mem_of_getElem? (i := 826) (by decide +kernel), List.mem_of_getElem? (i := 827) (by decide +kernel)⟩
theorem lw_p24 : lw_okq (⟨"GorgeRopes", "tripsThatCount", "()I"⟩, 9) := ⟨⟨by decide +kernel, by decide +kernel⟩, List.mem_of_getElem? (i := 17) (by decide +kernel), List.mem_of_getElem? (i := 855) (by decide +kernel), List.mem_of_getElem? (i := 856) (by decide +kernel)⟩
theorem lw_p25 : lw_okq (⟨"GorgeRopes", "mixedRope", "(JI)J"⟩, 9) := ⟨⟨by decide +kernel, by decide +kernel⟩, List.mem_of_getElem? (i := 17) (by decide +kernel), List.mem_of_getElem? (i := 878) (by decide +kernel), List.mem_of_getElem? (i := 879) (by decide +kernel)⟩
theorem lw_p26 : lw_okq (⟨"GorgeRopes", "mixedMill", "(J)J"⟩, 9) := ⟨⟨by decide +kernel, by decide +kernel⟩, List.mem_of_getElem? (i := 17) (by decide +kernel), List.mem_of_getElem? (i := 885) (by decide +kernel), List.mem_of_getElem? (i := 886) (by decide +kernel)⟩
theorem lw_p27 : lw_okq (⟨"GorgeRopesModel", "met", "(I)I"⟩, 33) := ⟨⟨by decide +kernel, by decide +kernel⟩, List.mem_of_getElem? (i := 891) (by decide +kernel), List.mem_of_getElem? (i := 1009) (by decide +kernel), List.mem_of_getElem? (i := 1010) (by decide +kernel)⟩
theorem lw_p28 : lw_okq (⟨"GorgeRopesModel", "lacks", "(III)I"⟩, 33) := ⟨⟨by decide +kernel, by decide +kernel⟩, List.mem_of_getElem? (i := 891) (by decide +kernel), List.mem_of_getElem? (i := 1021) (by decide +kernel), List.mem_of_getElem? (i := 1022) (by decide +kernel)⟩
theorem lw_p29 : lw_okq (⟨"GorgeRopesModel", "faultOf", "(I)I"⟩, 33) := ⟨⟨by decide +kernel, by decide +kernel⟩, List.mem_of_getElem? (i := 891) (by decide +kernel), List.mem_of_getElem? (i := 1053) (by decide +kernel), List.mem_of_getElem? (i := 1054) (by decide +kernel)⟩
theorem lw_p30 : lw_okq (⟨"GorgeRopesModel", "readsRopes", "()I"⟩, 33) := ⟨⟨by decide +kernel, by decide +kernel⟩, List.mem_of_getElem? (i := 891) (by decide +kernel), List.mem_of_getElem? (i := 1057) (by decide +kernel), List.mem_of_getElem? (i := 1058) (by decide +kernel)⟩
theorem lw_p31 : lw_okq (⟨"GorgeRopesModel", "readsRope", "()Z"⟩, 33) := ⟨⟨by decide +kernel, by decide +kernel⟩, List.mem_of_getElem? (i := 891) (by decide +kernel), List.mem_of_getElem? (i := 1061) (by decide +kernel), List.mem_of_getElem? (i := 1062) (by decide +kernel)⟩
def lw_privs_2 : List (MethodName × Nat) := [(⟨"GorgeRopes$Mill", "leastJoined", "(I)I"⟩, 10), (⟨"GorgeRopes", "sentAsReckoned", "(I)I"⟩, 9), (⟨"GorgeRopes$Mill", "leastKey", "()I"⟩, 10), (⟨"GorgeRopes", "cutAsTold", "(I)I"⟩, 9), (⟨"GorgeRopes$Mill", "tryPegs", "(LGorgeRopes$Ropes;I)V"⟩, 10), (⟨"GorgeRopes$Fees", "mostGroups", "()I"⟩, 4), (⟨"GorgeRopes$Fees", "addTrip", "(I)V"⟩, 4), (⟨"GorgeRopes$Sheet", "fitted", "(I)I"⟩, 3), (⟨"GorgeRopes", "tripsThatCount", "()I"⟩, 9), (⟨"GorgeRopes", "mixedRope", "(JI)J"⟩, 9), (⟨"GorgeRopes", "mixedMill", "(J)J"⟩, 9), (⟨"GorgeRopesModel", "met", "(I)I"⟩, 33), (⟨"GorgeRopesModel", "lacks", "(III)I"⟩, 33), (⟨"GorgeRopesModel", "faultOf", "(I)I"⟩, 33), (⟨"GorgeRopesModel", "readsRopes", "()I"⟩, 33), (⟨"GorgeRopesModel", "readsRope", "()Z"⟩, 33)]
theorem lw_r2 : ∀ q ∈ lw_privs_2, lw_okq q := List.forall_mem_cons.mpr ⟨lw_p16, List.forall_mem_cons.mpr ⟨lw_p17, List.forall_mem_cons.mpr ⟨lw_p18, List.forall_mem_cons.mpr ⟨lw_p19, List.forall_mem_cons.mpr ⟨lw_p20, List.forall_mem_cons.mpr ⟨lw_p21, List.forall_mem_cons.mpr ⟨lw_p22, List.forall_mem_cons.mpr ⟨lw_p23, List.forall_mem_cons.mpr ⟨lw_p24, List.forall_mem_cons.mpr ⟨lw_p25, List.forall_mem_cons.mpr ⟨lw_p26, List.forall_mem_cons.mpr ⟨lw_p27, List.forall_mem_cons.mpr ⟨lw_p28, List.forall_mem_cons.mpr ⟨lw_p29, List.forall_mem_cons.mpr ⟨lw_p30, List.forall_mem_cons.mpr ⟨lw_p31, fun _ h => absurd h List.not_mem_nil⟩⟩⟩⟩⟩⟩⟩⟩⟩⟩⟩⟩⟩⟩⟩⟩
theorem lw_p32 : lw_okq (⟨"GorgeRopesModel", "here", "()I"⟩, 33) := ⟨⟨by decide +kernel, by decide +kernel⟩, List.mem_of_getElem? (i := 891) (by decide +kernel), List.mem_of_getElem? (i := 1065) (by decide +kernel), List.mem_of_getElem? (i := 1066) (by decide +kernel)⟩
theorem lw_p33 : lw_okq (⟨"GorgeRopesModel", "find", "()I"⟩, 33) := ⟨⟨by decide +kernel, by decide +kernel⟩, List.mem_of_getElem? (i := 891) (by decide +kernel), List.mem_of_getElem? (i := 1074) (by decide +kernel), List.mem_of_getElem? (i := 1075) (by decide +kernel)⟩
theorem lw_p34 : lw_okq (⟨"GorgeRopesModel", "readsRight", "()I"⟩, 33) := ⟨⟨by decide +kernel, by decide +kernel⟩, List.mem_of_getElem? (i := 891) (by decide +kernel), List.mem_of_getElem? (i := 1078) (by decide +kernel), List.mem_of_getElem? (i := 1079) (by decide +kernel)⟩
theorem lw_p35 : lw_okq (⟨"GorgeRopesModel", "isRope", "(I)Z"⟩, 33) := ⟨⟨by decide +kernel, by decide +kernel⟩, List.mem_of_getElem? (i := 891) (by decide +kernel), List.mem_of_getElem? (i := 1082) (by decide +kernel), List.mem_of_getElem? (i := 1083) (by decide +kernel)⟩
theorem lw_p36 : lw_okq (⟨"GorgeRopesModel", "hasRope", "(I)Z"⟩, 33) := ⟨⟨by decide +kernel, by decide +kernel⟩, List.mem_of_getElem? (i := 891) (by decide +kernel), List.mem_of_getElem? (i := 1090) (by decide +kernel), List.mem_of_getElem? (i := 1091) (by decide +kernel)⟩
theorem lw_p37 : lw_okq (⟨"GorgeRopesModel", "ropeOf", "(II)I"⟩, 33) := ⟨⟨by decide +kernel, by decide +kernel⟩, List.mem_of_getElem? (i := 891) (by decide +kernel), List.mem_of_getElem? (i := 1095) (by decide +kernel), List.mem_of_getElem? (i := 1096) (by decide +kernel)⟩
theorem lw_p38 : lw_okq (⟨"GorgeRopesModel", "areTwo", "(II)Z"⟩, 33) := ⟨⟨by decide +kernel, by decide +kernel⟩, List.mem_of_getElem? (i := 891) (by decide +kernel), List.mem_of_getElem? (i := 1103) (by decide +kernel), List.mem_of_getElem? (i := 1104) (by decide +kernel)⟩
theorem lw_p39 : lw_okq (⟨"GorgeRopesModel", "crossesWith", "(I)I"⟩, 33) := ⟨⟨by decide +kernel, by decide +kernel⟩, List.mem_of_getElem? (i := 891) (by decide +kernel), List.mem_of_getElem? (i := 1107) (by decide +kernel), List.mem_of_getElem? (i := 1108) (by decide +kernel)⟩
theorem lw_p40 : lw_okq (⟨"GorgeRopesModel", "doCross", "(II)Z"⟩, 33) := ⟨⟨by decide +kernel, by decide +kernel⟩, List.mem_of_getElem? (i := 891) (by decide +kernel), List.mem_of_getElem? (i := 1111) (by decide +kernel), List.mem_of_getElem? (i := 1112) (by decide +kernel)⟩
theorem lw_p41 : lw_okq (⟨"GorgeRopesModel", "above", "(III)I"⟩, 33) := ⟨⟨by decide +kernel, by decide +kernel⟩, List.mem_of_getElem? (i := 891) (by decide +kernel), List.mem_of_getElem? (i := 1115) (by decide +kernel), List.mem_of_getElem? (i := 1116) (by decide +kernel)⟩
theorem lw_p42 : lw_okq (⟨"GorgeRopesModel", "crossingOf", "(IIII)J"⟩, 33) := ⟨⟨by decide +kernel, by decide +kernel⟩, List.mem_of_getElem? (i := 891) (by decide +kernel), List.mem_of_getElem? (i := 1123) (by decide +kernel), List.mem_of_getElem? (i := 1124) (by decide +kernel)⟩
theorem lw_p43 : lw_okq (⟨"GorgeRopesModel", "findPlace", "(II)V"⟩, 33) := ⟨⟨by decide +kernel, by decide +kernel⟩, List.mem_of_getElem? (i := 891) (by decide +kernel), List.mem_of_getElem? (i := 1131) (by decide +kernel), List.mem_of_getElem? (i := 1132) (by decide +kernel)⟩
theorem lw_p44 : lw_okq (⟨"GorgeRopesModel", "minutes", "(II)I"⟩, 33) := ⟨⟨by decide +kernel, by decide +kernel⟩, List.mem_of_getElem? (i := 891) (by decide +kernel), List.mem_of_getElem? (i := 1145) (by decide +kernel), List.mem_of_getElem? (i := 1146) (by decide +kernel)⟩
theorem lw_p45 : lw_okq (⟨"GorgeRopesModel", "rises", "(II)I"⟩, 33) := ⟨⟨by decide +kernel, by decide +kernel⟩, List.mem_of_getElem? (i := 891) (by decide +kernel), List.mem_of_getElem? (i := 1149) (by decide +kernel), List.mem_of_getElem? (i := 1150) (by decide +kernel)⟩
theorem lw_p46 : lw_okq (⟨"GorgeRopesModel", "costs", "(III)I"⟩, 33) := ⟨⟨by decide +kernel, by decide +kernel⟩, List.mem_of_getElem? (i := 891) (by decide +kernel), List.mem_of_getElem? (i := 1153) (by decide +kernel), List.mem_of_getElem? (i := 1154) (by decide +kernel)⟩
theorem lw_p47 : lw_okq (⟨"GorgeRopesModel", "isTrip", "(I)Z"⟩, 33) := ⟨⟨by decide +kernel, by decide +kernel⟩, List.mem_of_getElem? (i := 891) (by decide +kernel), List.mem_of_getElem? (i := 1185) (by decide +kernel), List.mem_of_getElem? (i := 1186) (by decide +kernel)⟩
def lw_privs_3 : List (MethodName × Nat) := [(⟨"GorgeRopesModel", "here", "()I"⟩, 33), (⟨"GorgeRopesModel", "find", "()I"⟩, 33), (⟨"GorgeRopesModel", "readsRight", "()I"⟩, 33), (⟨"GorgeRopesModel", "isRope", "(I)Z"⟩, 33), (⟨"GorgeRopesModel", "hasRope", "(I)Z"⟩, 33), (⟨"GorgeRopesModel", "ropeOf", "(II)I"⟩, 33), (⟨"GorgeRopesModel", "areTwo", "(II)Z"⟩, 33), (⟨"GorgeRopesModel", "crossesWith", "(I)I"⟩, 33), (⟨"GorgeRopesModel", "doCross", "(II)Z"⟩, 33), (⟨"GorgeRopesModel", "above", "(III)I"⟩, 33), (⟨"GorgeRopesModel", "crossingOf", "(IIII)J"⟩, 33), (⟨"GorgeRopesModel", "findPlace", "(II)V"⟩, 33), (⟨"GorgeRopesModel", "minutes", "(II)I"⟩, 33), (⟨"GorgeRopesModel", "rises", "(II)I"⟩, 33), (⟨"GorgeRopesModel", "costs", "(III)I"⟩, 33), (⟨"GorgeRopesModel", "isTrip", "(I)Z"⟩, 33)]
theorem lw_r3 : ∀ q ∈ lw_privs_3, lw_okq q := List.forall_mem_cons.mpr ⟨lw_p32, List.forall_mem_cons.mpr ⟨lw_p33, List.forall_mem_cons.mpr ⟨lw_p34, List.forall_mem_cons.mpr ⟨lw_p35, List.forall_mem_cons.mpr ⟨lw_p36, List.forall_mem_cons.mpr ⟨lw_p37, List.forall_mem_cons.mpr ⟨lw_p38, List.forall_mem_cons.mpr ⟨lw_p39, List.forall_mem_cons.mpr ⟨lw_p40, List.forall_mem_cons.mpr ⟨lw_p41, List.forall_mem_cons.mpr ⟨lw_p42, List.forall_mem_cons.mpr ⟨lw_p43, List.forall_mem_cons.mpr ⟨lw_p44, List.forall_mem_cons.mpr ⟨lw_p45, List.forall_mem_cons.mpr ⟨lw_p46, List.forall_mem_cons.mpr ⟨lw_p47, fun _ h => absurd h List.not_mem_nil⟩⟩⟩⟩⟩⟩⟩⟩⟩⟩⟩⟩⟩⟩⟩⟩
theorem lw_p48 : lw_okq (⟨"GorgeRopesModel", "asTold", "()V"⟩, 33) := ⟨⟨by decide +kernel, by decide +kernel⟩, List.mem_of_getElem? (i := 891) (by decide +kernel), List.mem_of_getElem? (i := 1189) (by decide +kernel), List.mem_of_getElem? (i := 1190) (by decide +kernel)⟩
theorem lw_p49 : lw_okq (⟨"GorgeRopesModel", "doClash", "(II)Z"⟩, 33) := ⟨⟨by decide +kernel, by decide +kernel⟩, List.mem_of_getElem? (i := 891) (by decide +kernel), List.mem_of_getElem? (i := 1193) (by decide +kernel), List.mem_of_getElem? (i := 1194) (by decide +kernel)⟩
theorem lw_p50 : lw_okq (⟨"GorgeRopesModel", "counts", "(I)Z"⟩, 33) := ⟨⟨by decide +kernel, by decide +kernel⟩, List.mem_of_getElem? (i := 891) (by decide +kernel), List.mem_of_getElem? (i := 1197) (by decide +kernel), List.mem_of_getElem? (i := 1198) (by decide +kernel)⟩
theorem lw_p51 : lw_okq (⟨"GorgeRopesModel", "lasts", "(I)I"⟩, 33) := ⟨⟨by decide +kernel, by decide +kernel⟩, List.mem_of_getElem? (i := 891) (by decide +kernel), List.mem_of_getElem? (i := 1201) (by decide +kernel), List.mem_of_getElem? (i := 1202) (by decide +kernel)⟩
theorem lw_p52 : lw_okq (⟨"GorgeRopesModel", "moment", "(I)I"⟩, 33) := ⟨⟨by decide +kernel, by decide +kernel⟩, List.mem_of_getElem? (i := 891) (by decide +kernel), List.mem_of_getElem? (i := 1205) (by decide +kernel), List.mem_of_getElem? (i := 1206) (by decide +kernel)⟩
theorem lw_p53 : lw_okq (⟨"GorgeRopesModel", "clashesNow", "()I"⟩, 33) := ⟨⟨by decide +kernel, by decide +kernel⟩, List.mem_of_getElem? (i := 891) (by decide +kernel), List.mem_of_getElem? (i := 1213) (by decide +kernel), List.mem_of_getElem? (i := 1214) (by decide +kernel)⟩
theorem lw_p54 : lw_okq (⟨"GorgeRopesModel", "findPutOff", "()V"⟩, 33) := ⟨⟨by decide +kernel, by decide +kernel⟩, List.mem_of_getElem? (i := 891) (by decide +kernel), List.mem_of_getElem? (i := 1221) (by decide +kernel), List.mem_of_getElem? (i := 1222) (by decide +kernel)⟩
theorem lw_p55 : lw_okq (⟨"GorgeRopesModel", "clashesAhead", "(I)Z"⟩, 33) := ⟨⟨by decide +kernel, by decide +kernel⟩, List.mem_of_getElem? (i := 891) (by decide +kernel), List.mem_of_getElem? (i := 1225) (by decide +kernel), List.mem_of_getElem? (i := 1226) (by decide +kernel)⟩
theorem lw_p56 : lw_okq (⟨"GorgeRopesModel", "isAhead", "(II)Z"⟩, 33) := ⟨⟨by decide +kernel, by decide +kernel⟩, List.mem_of_getElem? (i := 891) (by decide +kernel), List.mem_of_getElem? (i := 1229) (by decide +kernel), List.mem_of_getElem? (i := 1230) (by decide +kernel)⟩
theorem lw_p57 : lw_okq (⟨"GorgeRopesModel", "frayedOf", "(II)I"⟩, 33) := ⟨⟨by decide +kernel, by decide +kernel⟩, List.mem_of_getElem? (i := 891) (by decide +kernel), List.mem_of_getElem? (i := 1237) (by decide +kernel), List.mem_of_getElem? (i := 1238) (by decide +kernel)⟩
theorem lw_p58 : lw_okq (⟨"GorgeRopesModel", "heavyNow", "()I"⟩, 33) := ⟨⟨by decide +kernel, by decide +kernel⟩, List.mem_of_getElem? (i := 891) (by decide +kernel), List.mem_of_getElem? (i := 1249) (by decide +kernel), List.mem_of_getElem? (i := 1250) (by decide +kernel)⟩
theorem lw_p59 : lw_okq (⟨"GorgeRopesModel", "lot", "(I)I"⟩, 33) := ⟨⟨by decide +kernel, by decide +kernel⟩, List.mem_of_getElem? (i := 891) (by decide +kernel), List.mem_of_getElem? (i := 1257) (by decide +kernel), List.mem_of_getElem? (i := 1258) (by decide +kernel)⟩
theorem lw_p60 : lw_okq (⟨"GorgeRopesModel", "findSent", "(II)V"⟩, 33) := ⟨⟨by decide +kernel, by decide +kernel⟩, List.mem_of_getElem? (i := 891) (by decide +kernel), List.mem_of_getElem? (i := 1275) (by decide +kernel), List.mem_of_getElem? (i := 1276) (by decide +kernel)⟩
theorem lw_p61 : lw_okq (⟨"GorgeRopesModel", "goesOn", "(ZII)Z"⟩, 33) := ⟨⟨by decide +kernel, by decide +kernel⟩, List.mem_of_getElem? (i := 891) (by decide +kernel), List.mem_of_getElem? (i := 1279) (by decide +kernel), List.mem_of_getElem? (i := 1280) (by decide +kernel)⟩
theorem lw_p62 : lw_okq (⟨"GorgeRopesModel", "nextRope", "(IIII)I"⟩, 33) := ⟨⟨by decide +kernel, by decide +kernel⟩, List.mem_of_getElem? (i := 891) (by decide +kernel), List.mem_of_getElem? (i := 1283) (by decide +kernel), List.mem_of_getElem? (i := 1284) (by decide +kernel)⟩
theorem lw_p63 : lw_okq (⟨"GorgeRopesModel", "mayGo", "(III)Z"⟩, 33) := ⟨⟨by decide +kernel, by decide +kernel⟩, List.mem_of_getElem? (i := 891) (by decide +kernel), List.mem_of_getElem? (i := 1287) (by decide +kernel), List.mem_of_getElem? (i := 1288) (by decide +kernel)⟩
def lw_privs_4 : List (MethodName × Nat) := [(⟨"GorgeRopesModel", "asTold", "()V"⟩, 33), (⟨"GorgeRopesModel", "doClash", "(II)Z"⟩, 33), (⟨"GorgeRopesModel", "counts", "(I)Z"⟩, 33), (⟨"GorgeRopesModel", "lasts", "(I)I"⟩, 33), (⟨"GorgeRopesModel", "moment", "(I)I"⟩, 33), (⟨"GorgeRopesModel", "clashesNow", "()I"⟩, 33), (⟨"GorgeRopesModel", "findPutOff", "()V"⟩, 33), (⟨"GorgeRopesModel", "clashesAhead", "(I)Z"⟩, 33), (⟨"GorgeRopesModel", "isAhead", "(II)Z"⟩, 33), (⟨"GorgeRopesModel", "frayedOf", "(II)I"⟩, 33), (⟨"GorgeRopesModel", "heavyNow", "()I"⟩, 33), (⟨"GorgeRopesModel", "lot", "(I)I"⟩, 33), (⟨"GorgeRopesModel", "findSent", "(II)V"⟩, 33), (⟨"GorgeRopesModel", "goesOn", "(ZII)Z"⟩, 33), (⟨"GorgeRopesModel", "nextRope", "(IIII)I"⟩, 33), (⟨"GorgeRopesModel", "mayGo", "(III)Z"⟩, 33)]
theorem lw_r4 : ∀ q ∈ lw_privs_4, lw_okq q := List.forall_mem_cons.mpr ⟨lw_p48, List.forall_mem_cons.mpr ⟨lw_p49, List.forall_mem_cons.mpr ⟨lw_p50, List.forall_mem_cons.mpr ⟨lw_p51, List.forall_mem_cons.mpr ⟨lw_p52, List.forall_mem_cons.mpr ⟨lw_p53, List.forall_mem_cons.mpr ⟨lw_p54, List.forall_mem_cons.mpr ⟨lw_p55, List.forall_mem_cons.mpr ⟨lw_p56, List.forall_mem_cons.mpr ⟨lw_p57, List.forall_mem_cons.mpr ⟨lw_p58, List.forall_mem_cons.mpr ⟨lw_p59, List.forall_mem_cons.mpr ⟨lw_p60, List.forall_mem_cons.mpr ⟨lw_p61, List.forall_mem_cons.mpr ⟨lw_p62, List.forall_mem_cons.mpr ⟨lw_p63, fun _ h => absurd h List.not_mem_nil⟩⟩⟩⟩⟩⟩⟩⟩⟩⟩⟩⟩⟩⟩⟩⟩
theorem lw_p64 : lw_okq (⟨"GorgeRopesModel", "rowCost", "()I"⟩, 33) := ⟨⟨by decide +kernel, by decide +kernel⟩, List.mem_of_getElem? (i := 891) (by decide +kernel), List.mem_of_getElem? (i := 1291) (by decide +kernel), List.mem_of_getElem? (i := 1292) (by decide +kernel)⟩
theorem lw_p65 : lw_okq (⟨"GorgeRopesModel", "rowTime", "()I"⟩, 33) := ⟨⟨by decide +kernel, by decide +kernel⟩, List.mem_of_getElem? (i := 891) (by decide +kernel), List.mem_of_getElem? (i := 1295) (by decide +kernel), List.mem_of_getElem? (i := 1296) (by decide +kernel)⟩
theorem lw_p66 : lw_okq (⟨"GorgeRopesModel", "cutOf", "(I)I"⟩, 33) := ⟨⟨by decide +kernel, by decide +kernel⟩, List.mem_of_getElem? (i := 891) (by decide +kernel), List.mem_of_getElem? (i := 1303) (by decide +kernel), List.mem_of_getElem? (i := 1304) (by decide +kernel)⟩
theorem lw_p67 : lw_okq (⟨"GorgeRopesModel", "neededNow", "()I"⟩, 33) := ⟨⟨by decide +kernel, by decide +kernel⟩, List.mem_of_getElem? (i := 891) (by decide +kernel), List.mem_of_getElem? (i := 1311) (by decide +kernel), List.mem_of_getElem? (i := 1312) (by decide +kernel)⟩
theorem lw_p68 : lw_okq (⟨"GorgeRopesModel", "findPegs", "(III)V"⟩, 33) := ⟨⟨by decide +kernel, by decide +kernel⟩, List.mem_of_getElem? (i := 891) (by decide +kernel), List.mem_of_getElem? (i := 1319) (by decide +kernel), List.mem_of_getElem? (i := 1320) (by decide +kernel)⟩
theorem lw_p69 : lw_okq (⟨"GorgeRopesModel", "balanceOf", "(I)I"⟩, 33) := ⟨⟨by decide +kernel, by decide +kernel⟩, List.mem_of_getElem? (i := 891) (by decide +kernel), List.mem_of_getElem? (i := 1327) (by decide +kernel), List.mem_of_getElem? (i := 1328) (by decide +kernel)⟩
theorem lw_p70 : lw_okq (⟨"GorgeRopesModel", "findBalances", "()V"⟩, 33) := ⟨⟨by decide +kernel, by decide +kernel⟩, List.mem_of_getElem? (i := 891) (by decide +kernel), List.mem_of_getElem? (i := 1331) (by decide +kernel), List.mem_of_getElem? (i := 1332) (by decide +kernel)⟩
theorem lw_p71 : lw_okq (⟨"GorgeRopesModel", "settledNow", "()I"⟩, 33) := ⟨⟨by decide +kernel, by decide +kernel⟩, List.mem_of_getElem? (i := 891) (by decide +kernel), List.mem_of_getElem? (i := 1339) (by decide +kernel), List.mem_of_getElem? (i := 1340) (by decide +kernel)⟩
theorem lw_p72 : lw_okq (⟨"GorgeRopesModel", "sumOf", "(I)I"⟩, 33) := ⟨⟨by decide +kernel, by decide +kernel⟩, List.mem_of_getElem? (i := 891) (by decide +kernel), List.mem_of_getElem? (i := 1343) (by decide +kernel), List.mem_of_getElem? (i := 1344) (by decide +kernel)⟩
def lw_privs_5 : List (MethodName × Nat) := [(⟨"GorgeRopesModel", "rowCost", "()I"⟩, 33), (⟨"GorgeRopesModel", "rowTime", "()I"⟩, 33), (⟨"GorgeRopesModel", "cutOf", "(I)I"⟩, 33), (⟨"GorgeRopesModel", "neededNow", "()I"⟩, 33), (⟨"GorgeRopesModel", "findPegs", "(III)V"⟩, 33), (⟨"GorgeRopesModel", "balanceOf", "(I)I"⟩, 33), (⟨"GorgeRopesModel", "findBalances", "()V"⟩, 33), (⟨"GorgeRopesModel", "settledNow", "()I"⟩, 33), (⟨"GorgeRopesModel", "sumOf", "(I)I"⟩, 33)]
theorem lw_r5 : ∀ q ∈ lw_privs_5, lw_okq q := List.forall_mem_cons.mpr ⟨lw_p64, List.forall_mem_cons.mpr ⟨lw_p65, List.forall_mem_cons.mpr ⟨lw_p66, List.forall_mem_cons.mpr ⟨lw_p67, List.forall_mem_cons.mpr ⟨lw_p68, List.forall_mem_cons.mpr ⟨lw_p69, List.forall_mem_cons.mpr ⟨lw_p70, List.forall_mem_cons.mpr ⟨lw_p71, List.forall_mem_cons.mpr ⟨lw_p72, fun _ h => absurd h List.not_mem_nil⟩⟩⟩⟩⟩⟩⟩⟩⟩
def lw_privs : List (MethodName × Nat) := lw_privs_1 ++ (lw_privs_2 ++ (lw_privs_3 ++ (lw_privs_4 ++ (lw_privs_5))))
def lw_tbl : List Cond := k2_sels lw_privs ++ tables_1
theorem lw_privs_ok : ∀ q ∈ lw_privs, lw_okq q := by
  show ∀ q ∈ lw_privs_1 ++ (lw_privs_2 ++ (lw_privs_3 ++ (lw_privs_4 ++ (lw_privs_5)))), lw_okq q
  exact List.forall_mem_append.mpr ⟨lw_r1, List.forall_mem_append.mpr ⟨lw_r2, List.forall_mem_append.mpr ⟨lw_r3, List.forall_mem_append.mpr ⟨lw_r4, lw_r5⟩⟩⟩⟩
end
section
/-! names: the objects, their fields, the methods -/
def R_Fe : String := "GorgeRopes$Fees"
def R_Mi : String := "GorgeRopes$Mill"
def R_Ro : String := "GorgeRopes$Rope"
def R_Rs : String := "GorgeRopes$Ropes"
def R_Sh : String := "GorgeRopes$Sheet"
def R_Ss : String := "GorgeRopes$Sheets"
def R_Te : String := "GorgeRopes$Text"
def R_Tt : String := "GorgeRopes$Timetable"
def R_Tr : String := "GorgeRopes$Trip"
def R_Ts : String := "GorgeRopes$Trips"
def R_GR : String := "GorgeRopes"
def R_Md : String := "GorgeRopesModel"
def R_JM : String := "java/lang/Math"
def R_JI : String := "java/lang/Integer"
def F_Fe : u_T := fun k => match k with
  | 0 => ("GorgeRopes$Fees", "money", "[I", true)
  | 1 => ("GorgeRopes$Fees", "sums", "[I", true)
  | 2 => ("GorgeRopes$Fees", "groups", "[I", true)
  | _ => ("GorgeRopes$Fees", "waysTo", "[J", true)
def t_Fe : Nat → FieldType := fun k => match k with
  | 0 => .array .int
  | 1 => .array .int
  | 2 => .array .int
  | _ => .array .long
theorem n_Fe : ∀ a, a < 4 → ∀ b, b < 4 → a ≠ b → (F_Fe a).2.1 ≠ (F_Fe b).2.1 := by decide +kernel
theorem t_Fe_ok : ∀ k, k < 4 → parseFieldDescriptor (F_Fe k).2.2.1 = some (t_Fe k) := by decide +kernel
def F_Mi : u_T := fun k => match k with
  | 0 => ("GorgeRopes$Mill", "weight", "[I", true)
  | 1 => ("GorgeRopes$Mill", "kind", "[I", true)
  | 2 => ("GorgeRopes$Mill", "least", "[I", true)
  | 3 => ("GorgeRopes$Mill", "alone", "[I", true)
  | 4 => ("GorgeRopes$Mill", "extra", "LGorgeRopes$Rope;", true)
  | 5 => ("GorgeRopes$Mill", "size", "I", false)
  | 6 => ("GorgeRopes$Mill", "pegsLeft", "I", false)
  | 7 => ("GorgeRopes$Mill", "pegsRight", "I", false)
  | 8 => ("GorgeRopes$Mill", "pegsCost", "I", false)
  | _ => ("GorgeRopes$Mill", "pegsMet", "I", false)
def t_Mi : Nat → FieldType := fun k => match k with
  | 0 => .array .int
  | 1 => .array .int
  | 2 => .array .int
  | 3 => .array .int
  | 4 => .object "GorgeRopes$Rope"
  | 5 => .int
  | 6 => .int
  | 7 => .int
  | 8 => .int
  | _ => .int
theorem n_Mi : ∀ a, a < 10 → ∀ b, b < 10 → a ≠ b → (F_Mi a).2.1 ≠ (F_Mi b).2.1 := by decide +kernel
theorem t_Mi_ok : ∀ k, k < 10 → parseFieldDescriptor (F_Mi k).2.2.1 = some (t_Mi k) := by decide +kernel
def F_Ro : u_T := fun k => match k with
  | 0 => ("GorgeRopes$Rope", "left", "I", false)
  | 1 => ("GorgeRopes$Rope", "right", "I", false)
  | 2 => ("GorgeRopes$Rope", "kind", "I", false)
  | 3 => ("GorgeRopes$Rope", "bears", "I", false)
  | 4 => ("GorgeRopes$Rope", "price", "I", false)
  | 5 => ("GorgeRopes$Rope", "owner", "I", false)
  | 6 => ("GorgeRopes$Rope", "rank", "I", false)
  | 7 => ("GorgeRopes$Rope", "climbRight", "I", false)
  | _ => ("GorgeRopes$Rope", "climbLeft", "I", false)
def t_Ro : Nat → FieldType := fun k => match k with
  | 0 => .int
  | 1 => .int
  | 2 => .int
  | 3 => .int
  | 4 => .int
  | 5 => .int
  | 6 => .int
  | 7 => .int
  | _ => .int
theorem n_Ro : ∀ a, a < 9 → ∀ b, b < 9 → a ≠ b → (F_Ro a).2.1 ≠ (F_Ro b).2.1 := by decide +kernel
theorem t_Ro_ok : ∀ k, k < 9 → parseFieldDescriptor (F_Ro k).2.2.1 = some (t_Ro k) := by decide +kernel
def F_Rs : u_T := fun k => match k with
  | 0 => ("GorgeRopes$Ropes", "rows", "[LGorgeRopes$Rope;", true)
  | 1 => ("GorgeRopes$Ropes", "bare", "LGorgeRopes$Rope;", true)
  | 2 => ("GorgeRopes$Ropes", "byRight", "[I", true)
  | 3 => ("GorgeRopes$Ropes", "size", "I", false)
  | 4 => ("GorgeRopes$Ropes", "ropesFault", "I", false)
  | _ => ("GorgeRopes$Ropes", "rightFault", "I", false)
def t_Rs : Nat → FieldType := fun k => match k with
  | 0 => .array (.object "GorgeRopes$Rope")
  | 1 => .object "GorgeRopes$Rope"
  | 2 => .array .int
  | 3 => .int
  | 4 => .int
  | _ => .int
theorem n_Rs : ∀ a, a < 6 → ∀ b, b < 6 → a ≠ b → (F_Rs a).2.1 ≠ (F_Rs b).2.1 := by decide +kernel
theorem t_Rs_ok : ∀ k, k < 6 → parseFieldDescriptor (F_Rs k).2.2.1 = some (t_Rs k) := by decide +kernel
def F_Sh : u_T := fun k => match k with
  | 0 => ("GorgeRopes$Sheet", "items", "[I", true)
  | 1 => ("GorgeRopes$Sheet", "form", "I", false)
  | _ => ("GorgeRopes$Sheet", "size", "I", false)
def t_Sh : Nat → FieldType := fun k => match k with
  | 0 => .array .int
  | 1 => .int
  | _ => .int
theorem n_Sh : ∀ a, a < 3 → ∀ b, b < 3 → a ≠ b → (F_Sh a).2.1 ≠ (F_Sh b).2.1 := by decide +kernel
theorem t_Sh_ok : ∀ k, k < 3 → parseFieldDescriptor (F_Sh k).2.2.1 = some (t_Sh k) := by decide +kernel
def F_Ss : u_T := fun k => match k with
  | 0 => ("GorgeRopes$Sheets", "rows", "[LGorgeRopes$Sheet;", true)
  | 1 => ("GorgeRopes$Sheets", "bare", "LGorgeRopes$Sheet;", true)
  | _ => ("GorgeRopes$Sheets", "latest", "I", false)
def t_Ss : Nat → FieldType := fun k => match k with
  | 0 => .array (.object "GorgeRopes$Sheet")
  | 1 => .object "GorgeRopes$Sheet"
  | _ => .int
theorem n_Ss : ∀ a, a < 3 → ∀ b, b < 3 → a ≠ b → (F_Ss a).2.1 ≠ (F_Ss b).2.1 := by decide +kernel
theorem t_Ss_ok : ∀ k, k < 3 → parseFieldDescriptor (F_Ss k).2.2.1 = some (t_Ss k) := by decide +kernel
def F_Te : u_T := fun k => match k with
  | 0 => ("GorgeRopes$Text", "bytes", "[I", true)
  | 1 => ("GorgeRopes$Text", "room", "I", true)
  | _ => ("GorgeRopes$Text", "length", "I", false)
def t_Te : Nat → FieldType := fun k => match k with
  | 0 => .array .int
  | 1 => .int
  | _ => .int
theorem n_Te : ∀ a, a < 3 → ∀ b, b < 3 → a ≠ b → (F_Te a).2.1 ≠ (F_Te b).2.1 := by decide +kernel
theorem t_Te_ok : ∀ k, k < 3 → parseFieldDescriptor (F_Te k).2.2.1 = some (t_Te k) := by decide +kernel
def F_Tt : u_T := fun k => match k with
  | 0 => ("GorgeRopes$Timetable", "start", "[I", true)
  | _ => ("GorgeRopes$Timetable", "seed", "I", false)
def t_Tt : Nat → FieldType := fun k => match k with
  | 0 => .array .int
  | _ => .int
theorem n_Tt : ∀ a, a < 2 → ∀ b, b < 2 → a ≠ b → (F_Tt a).2.1 ≠ (F_Tt b).2.1 := by decide +kernel
theorem t_Tt_ok : ∀ k, k < 2 → parseFieldDescriptor (F_Tt k).2.2.1 = some (t_Tt k) := by decide +kernel
def F_Tr : u_T := fun k => match k with
  | 0 => ("GorgeRopes$Trip", "rope", "I", false)
  | 1 => ("GorgeRopes$Trip", "side", "I", false)
  | 2 => ("GorgeRopes$Trip", "begin", "I", false)
  | 3 => ("GorgeRopes$Trip", "load", "I", false)
  | _ => ("GorgeRopes$Trip", "owner", "I", false)
def t_Tr : Nat → FieldType := fun k => match k with
  | 0 => .int
  | 1 => .int
  | 2 => .int
  | 3 => .int
  | _ => .int
theorem n_Tr : ∀ a, a < 5 → ∀ b, b < 5 → a ≠ b → (F_Tr a).2.1 ≠ (F_Tr b).2.1 := by decide +kernel
theorem t_Tr_ok : ∀ k, k < 5 → parseFieldDescriptor (F_Tr k).2.2.1 = some (t_Tr k) := by decide +kernel
def F_Ts : u_T := fun k => match k with
  | 0 => ("GorgeRopes$Trips", "rows", "[LGorgeRopes$Trip;", true)
  | 1 => ("GorgeRopes$Trips", "bare", "LGorgeRopes$Trip;", true)
  | _ => ("GorgeRopes$Trips", "size", "I", false)
def t_Ts : Nat → FieldType := fun k => match k with
  | 0 => .array (.object "GorgeRopes$Trip")
  | 1 => .object "GorgeRopes$Trip"
  | _ => .int
theorem n_Ts : ∀ a, a < 3 → ∀ b, b < 3 → a ≠ b → (F_Ts a).2.1 ≠ (F_Ts b).2.1 := by decide +kernel
theorem t_Ts_ok : ∀ k, k < 3 → parseFieldDescriptor (F_Ts k).2.2.1 = some (t_Ts k) := by decide +kernel
def F_GR : u_T := fun k => match k with
  | 0 => ("GorgeRopes", "ropeText", "LGorgeRopes$Text;", true)
  | 1 => ("GorgeRopes", "rightText", "LGorgeRopes$Text;", true)
  | 2 => ("GorgeRopes", "ropes", "LGorgeRopes$Ropes;", true)
  | 3 => ("GorgeRopes", "setting", "[I", true)
  | 4 => ("GorgeRopes", "trips", "LGorgeRopes$Trips;", true)
  | 5 => ("GorgeRopes", "table", "LGorgeRopes$Timetable;", true)
  | 6 => ("GorgeRopes", "mill", "LGorgeRopes$Mill;", true)
  | 7 => ("GorgeRopes", "fees", "LGorgeRopes$Fees;", true)
  | _ => ("GorgeRopes", "sheets", "LGorgeRopes$Sheets;", true)
def t_GR : Nat → FieldType := fun k => match k with
  | 0 => .object "GorgeRopes$Text"
  | 1 => .object "GorgeRopes$Text"
  | 2 => .object "GorgeRopes$Ropes"
  | 3 => .array .int
  | 4 => .object "GorgeRopes$Trips"
  | 5 => .object "GorgeRopes$Timetable"
  | 6 => .object "GorgeRopes$Mill"
  | 7 => .object "GorgeRopes$Fees"
  | _ => .object "GorgeRopes$Sheets"
theorem n_GR : ∀ a, a < 9 → ∀ b, b < 9 → a ≠ b → (F_GR a).2.1 ≠ (F_GR b).2.1 := by decide +kernel
theorem t_GR_ok : ∀ k, k < 9 → parseFieldDescriptor (F_GR k).2.2.1 = some (t_GR k) := by decide +kernel
def F_Md : u_T := fun k => match k with
  | 0 => ("GorgeRopesModel", "forms", "[I", true)
  | 1 => ("GorgeRopesModel", "sizes", "[I", true)
  | 2 => ("GorgeRopesModel", "items", "[I", true)
  | 3 => ("GorgeRopesModel", "moved", "[I", true)
  | 4 => ("GorgeRopesModel", "latest", "I", false)
  | 5 => ("GorgeRopesModel", "bytes", "[I", true)
  | 6 => ("GorgeRopesModel", "typed", "[I", true)
  | 7 => ("GorgeRopesModel", "at", "I", false)
  | 8 => ("GorgeRopesModel", "ropes", "I", false)
  | 9 => ("GorgeRopesModel", "facts", "[I", true)
  | 10 => ("GorgeRopesModel", "right", "[I", true)
  | 11 => ("GorgeRopesModel", "settings", "[I", true)
  | 12 => ("GorgeRopesModel", "placeAbove", "I", false)
  | 13 => ("GorgeRopesModel", "placeBelow", "I", false)
  | 14 => ("GorgeRopesModel", "trips", "I", false)
  | 15 => ("GorgeRopesModel", "told", "[I", true)
  | 16 => ("GorgeRopesModel", "begins", "[I", true)
  | 17 => ("GorgeRopesModel", "seedNow", "I", false)
  | 18 => ("GorgeRopesModel", "parts", "I", false)
  | 19 => ("GorgeRopesModel", "weights", "[I", true)
  | 20 => ("GorgeRopesModel", "kinds", "[I", true)
  | 21 => ("GorgeRopesModel", "row", "[I", true)
  | 22 => ("GorgeRopesModel", "bestRow", "[I", true)
  | 23 => ("GorgeRopesModel", "many", "[I", true)
  | 24 => ("GorgeRopesModel", "cost", "I", false)
  | 25 => ("GorgeRopesModel", "time", "I", false)
  | 26 => ("GorgeRopesModel", "pegLeft", "I", false)
  | 27 => ("GorgeRopesModel", "pegRight", "I", false)
  | 28 => ("GorgeRopesModel", "pegCost", "I", false)
  | 29 => ("GorgeRopesModel", "balances", "[I", true)
  | 30 => ("GorgeRopesModel", "groups", "[I", true)
  | 31 => ("GorgeRopesModel", "ways", "[J", true)
  | _ => ("GorgeRopesModel", "next", "[J", true)
def t_Md : Nat → FieldType := fun k => match k with
  | 0 => .array .int
  | 1 => .array .int
  | 2 => .array .int
  | 3 => .array .int
  | 4 => .int
  | 5 => .array .int
  | 6 => .array .int
  | 7 => .int
  | 8 => .int
  | 9 => .array .int
  | 10 => .array .int
  | 11 => .array .int
  | 12 => .int
  | 13 => .int
  | 14 => .int
  | 15 => .array .int
  | 16 => .array .int
  | 17 => .int
  | 18 => .int
  | 19 => .array .int
  | 20 => .array .int
  | 21 => .array .int
  | 22 => .array .int
  | 23 => .array .int
  | 24 => .int
  | 25 => .int
  | 26 => .int
  | 27 => .int
  | 28 => .int
  | 29 => .array .int
  | 30 => .array .int
  | 31 => .array .long
  | _ => .array .long
theorem n_Md : ∀ a, a < 33 → ∀ b, b < 33 → a ≠ b → (F_Md a).2.1 ≠ (F_Md b).2.1 := by decide +kernel
theorem t_Md_ok : ∀ k, k < 33 → parseFieldDescriptor (F_Md k).2.2.1 = some (t_Md k) := by decide +kernel
abbrev cls : List vw_C := [(R_Fe, F_Fe, 4), (R_Mi, F_Mi, 10), (R_Ro, F_Ro, 9), (R_Rs, F_Rs, 6), (R_Sh, F_Sh, 3), (R_Ss, F_Ss, 3), (R_Te, F_Te, 3), (R_Tt, F_Tt, 2), (R_Tr, F_Tr, 5), (R_Ts, F_Ts, 3), (R_GR, F_GR, 9), (R_Md, F_Md, 33)]
abbrev c_GR_init : ByteArray := prog_1_method_1_code
def y_GR_init : MethodName := ⟨R_GR, "<init>", "()V"⟩
abbrev c_Te_init : ByteArray := prog_8_method_1_code
def y_Te_init : MethodName := ⟨R_Te, "<init>", "(I)V"⟩
abbrev c_JM_min : ByteArray := prog_15_method_69_code
def y_JM_min : MethodName := ⟨R_JM, "min", "(II)I"⟩
abbrev c_Rs_init : ByteArray := prog_5_method_1_code
def y_Rs_init : MethodName := ⟨R_Rs, "<init>", "()V"⟩
abbrev c_Ro_init : ByteArray := prog_4_method_1_code
def y_Ro_init : MethodName := ⟨R_Ro, "<init>", "()V"⟩
abbrev c_Ts_init : ByteArray := prog_11_method_1_code
def y_Ts_init : MethodName := ⟨R_Ts, "<init>", "()V"⟩
abbrev c_Tr_init : ByteArray := prog_10_method_1_code
def y_Tr_init : MethodName := ⟨R_Tr, "<init>", "()V"⟩
abbrev c_Tt_init : ByteArray := prog_9_method_1_code
def y_Tt_init : MethodName := ⟨R_Tt, "<init>", "()V"⟩
abbrev c_Mi_init : ByteArray := prog_3_method_1_code
def y_Mi_init : MethodName := ⟨R_Mi, "<init>", "()V"⟩
abbrev c_Fe_init : ByteArray := prog_2_method_1_code
def y_Fe_init : MethodName := ⟨R_Fe, "<init>", "()V"⟩
abbrev c_Ss_init : ByteArray := prog_7_method_1_code
def y_Ss_init : MethodName := ⟨R_Ss, "<init>", "()V"⟩
abbrev c_Sh_init : ByteArray := prog_6_method_1_code
def y_Sh_init : MethodName := ⟨R_Sh, "<init>", "()V"⟩
abbrev c_GR_type : ByteArray := prog_1_method_2_code
def y_GR_type : MethodName := ⟨R_GR, "type", "(II)I"⟩
abbrev c_GR_isBelow : ByteArray := prog_1_method_37_code
def y_GR_isBelow : MethodName := ⟨R_GR, "isBelow", "(II)Z"⟩
abbrev c_GR_textOf : ByteArray := prog_1_method_41_code
def y_GR_textOf : MethodName := ⟨R_GR, "textOf", "(I)LGorgeRopes$Text;"⟩
abbrev c_Te_isFull : ByteArray := prog_8_method_2_code
def y_Te_isFull : MethodName := ⟨R_Te, "isFull", "()Z"⟩
abbrev c_Te_append : ByteArray := prog_8_method_3_code
def y_Te_append : MethodName := ⟨R_Te, "append", "(I)V"⟩
abbrev c_Rs_learn : ByteArray := prog_5_method_8_code
def y_Rs_learn : MethodName := ⟨R_Rs, "learn", "(LGorgeRopes$Text;LGorgeRopes$Text;)V"⟩
abbrev c_Rs_learnRopes : ByteArray := prog_5_method_9_code
def y_Rs_learnRopes : MethodName := ⟨R_Rs, "learnRopes", "(LGorgeRopes$Text;)I"⟩
abbrev c_Te_at : ByteArray := prog_8_method_5_code
def y_Te_at : MethodName := ⟨R_Te, "at", "(I)I"⟩
abbrev c_Te_figureAt : ByteArray := prog_8_method_6_code
def y_Te_figureAt : MethodName := ⟨R_Te, "figureAt", "(I)I"⟩
abbrev c_Rs_valueOf : ByteArray := prog_5_method_10_code
def y_Rs_valueOf : MethodName := ⟨R_Rs, "valueOf", "(III)I"⟩
abbrev c_Rs_kindOf : ByteArray := prog_5_method_11_code
def y_Rs_kindOf : MethodName := ⟨R_Rs, "kindOf", "(I)I"⟩
abbrev c_Rs_at : ByteArray := prog_5_method_4_code
def y_Rs_at : MethodName := ⟨R_Rs, "at", "(I)LGorgeRopes$Rope;"⟩
abbrev c_Ro_learn : ByteArray := prog_4_method_3_code
def y_Ro_learn : MethodName := ⟨R_Ro, "learn", "(II)V"⟩
abbrev c_Ro_hang : ByteArray := prog_4_method_4_code
def y_Ro_hang : MethodName := ⟨R_Ro, "hang", "(II)V"⟩
abbrev c_JM_max : ByteArray := prog_15_method_65_code
def y_JM_max : MethodName := ⟨R_JM, "max", "(II)I"⟩
abbrev c_Rs_faultOfRight : ByteArray := prog_5_method_12_code
def y_Rs_faultOfRight : MethodName := ⟨R_Rs, "faultOfRight", "(LGorgeRopes$Text;)I"⟩
abbrev c_Rs_has : ByteArray := prog_5_method_2_code
def y_Rs_has : MethodName := ⟨R_Rs, "has", "(I)Z"⟩
abbrev c_Rs_rank : ByteArray := prog_5_method_13_code
def y_Rs_rank : MethodName := ⟨R_Rs, "rank", "(LGorgeRopes$Text;)V"⟩
abbrev c_Rs_give : ByteArray := prog_5_method_14_code
def y_Rs_give : MethodName := ⟨R_Rs, "give", "(II)V"⟩
abbrev c_GR_wipe : ByteArray := prog_1_method_3_code
def y_GR_wipe : MethodName := ⟨R_GR, "wipe", "(I)I"⟩
abbrev c_Te_drop : ByteArray := prog_8_method_4_code
def y_Te_drop : MethodName := ⟨R_Te, "drop", "()I"⟩
abbrev c_GR_fault : ByteArray := prog_1_method_4_code
def y_GR_fault : MethodName := ⟨R_GR, "fault", "(I)I"⟩
abbrev c_GR_rope : ByteArray := prog_1_method_5_code
def y_GR_rope : MethodName := ⟨R_GR, "rope", "(II)I"⟩
abbrev c_Ro_tell : ByteArray := prog_4_method_2_code
def y_Ro_tell : MethodName := ⟨R_Ro, "tell", "(I)I"⟩
abbrev c_GR_crosses : ByteArray := prog_1_method_6_code
def y_GR_crosses : MethodName := ⟨R_GR, "crosses", "(III)I"⟩
abbrev c_Rs_hasTwo : ByteArray := prog_5_method_3_code
def y_Rs_hasTwo : MethodName := ⟨R_Rs, "hasTwo", "(II)Z"⟩
abbrev c_Rs_metBy : ByteArray := prog_5_method_6_code
def y_Rs_metBy : MethodName := ⟨R_Rs, "metBy", "(LGorgeRopes$Rope;)I"⟩
abbrev c_Ro_meets : ByteArray := prog_4_method_5_code
def y_Ro_meets : MethodName := ⟨R_Ro, "meets", "(LGorgeRopes$Rope;)Z"⟩
abbrev c_GR_crossing : ByteArray := prog_1_method_7_code
def y_GR_crossing : MethodName := ⟨R_GR, "crossing", "(IIII)J"⟩
abbrev c_GR_longRefusal : ByteArray := prog_1_method_38_code
def y_GR_longRefusal : MethodName := ⟨R_GR, "longRefusal", "(I)J"⟩
abbrev c_GR_crossingAsTold : ByteArray := prog_1_method_43_code
def y_GR_crossingAsTold : MethodName := ⟨R_GR, "crossingAsTold", "(IIII)J"⟩
abbrev c_Ro_span : ByteArray := prog_4_method_7_code
def y_Ro_span : MethodName := ⟨R_Ro, "span", "(LGorgeRopes$Rope;)I"⟩
abbrev c_Ro_apart : ByteArray := prog_4_method_6_code
def y_Ro_apart : MethodName := ⟨R_Ro, "apart", "(LGorgeRopes$Rope;I)I"⟩
abbrev c_JM_abs : ByteArray := prog_15_method_59_code
def y_JM_abs : MethodName := ⟨R_JM, "abs", "(I)I"⟩
abbrev c_GR_lowestTerm : ByteArray := prog_1_method_40_code
def y_GR_lowestTerm : MethodName := ⟨R_GR, "lowestTerm", "(III)I"⟩
abbrev c_GR_takes : ByteArray := prog_1_method_8_code
def y_GR_takes : MethodName := ⟨R_GR, "takes", "(IIII)I"⟩
abbrev c_Ro_minutes : ByteArray := prog_4_method_8_code
def y_Ro_minutes : MethodName := ⟨R_Ro, "minutes", "(I)I"⟩
abbrev c_Ro_fare : ByteArray := prog_4_method_9_code
def y_Ro_fare : MethodName := ⟨R_Ro, "fare", "(II)I"⟩
abbrev c_GR_set : ByteArray := prog_1_method_9_code
def y_GR_set : MethodName := ⟨R_GR, "set", "(II)I"⟩
abbrev c_GR_trip : ByteArray := prog_1_method_10_code
def y_GR_trip : MethodName := ⟨R_GR, "trip", "(IIIII)I"⟩
abbrev c_GR_mayGo : ByteArray := prog_1_method_42_code
def y_GR_mayGo : MethodName := ⟨R_GR, "mayGo", "(IIII)Z"⟩
abbrev c_Ts_isFull : ByteArray := prog_11_method_2_code
def y_Ts_isFull : MethodName := ⟨R_Ts, "isFull", "()Z"⟩
abbrev c_Ts_append : ByteArray := prog_11_method_5_code
def y_Ts_append : MethodName := ⟨R_Ts, "append", "(IIIII)V"⟩
abbrev c_Ts_at : ByteArray := prog_11_method_4_code
def y_Ts_at : MethodName := ⟨R_Ts, "at", "(I)LGorgeRopes$Trip;"⟩
abbrev c_GR_read : ByteArray := prog_1_method_11_code
def y_GR_read : MethodName := ⟨R_GR, "read", "(II)I"⟩
abbrev c_Ss_at : ByteArray := prog_7_method_2_code
def y_Ss_at : MethodName := ⟨R_Ss, "at", "(I)LGorgeRopes$Sheet;"⟩
abbrev c_Sh_isLost : ByteArray := prog_6_method_2_code
def y_Sh_isLost : MethodName := ⟨R_Sh, "isLost", "()Z"⟩
abbrev c_Ss_find : ByteArray := prog_7_method_3_code
def y_Ss_find : MethodName := ⟨R_Ss, "find", "(I)I"⟩
abbrev c_Sh_item : ByteArray := prog_6_method_4_code
def y_Sh_item : MethodName := ⟨R_Sh, "item", "(I)I"⟩
abbrev c_GR_undo : ByteArray := prog_1_method_12_code
def y_GR_undo : MethodName := ⟨R_GR, "undo", "()I"⟩
abbrev c_Ts_dropLast : ByteArray := prog_11_method_6_code
def y_Ts_dropLast : MethodName := ⟨R_Ts, "dropLast", "()V"⟩
abbrev c_GR_clash : ByteArray := prog_1_method_13_code
def y_GR_clash : MethodName := ⟨R_GR, "clash", "(III)I"⟩
abbrev c_Ts_has : ByteArray := prog_11_method_3_code
def y_Ts_has : MethodName := ⟨R_Ts, "has", "(I)Z"⟩
abbrev c_Tt_beginAsTold : ByteArray := prog_9_method_4_code
def y_Tt_beginAsTold : MethodName := ⟨R_Tt, "beginAsTold", "(LGorgeRopes$Ropes;LGorgeRopes$Trips;)V"⟩
abbrev c_Tt_begin : ByteArray := prog_9_method_3_code
def y_Tt_begin : MethodName := ⟨R_Tt, "begin", "(II)V"⟩
abbrev c_Tt_collide : ByteArray := prog_9_method_12_code
def y_Tt_collide : MethodName := ⟨R_Tt, "collide", "(LGorgeRopes$Ropes;LGorgeRopes$Trips;III)Z"⟩
abbrev c_Tt_startOf : ByteArray := prog_9_method_2_code
def y_Tt_startOf : MethodName := ⟨R_Tt, "startOf", "(I)I"⟩
abbrev c_GR_guilty : ByteArray := prog_1_method_44_code
def y_GR_guilty : MethodName := ⟨R_GR, "guilty", "(II)I"⟩
abbrev c_GR_clashes : ByteArray := prog_1_method_14_code
def y_GR_clashes : MethodName := ⟨R_GR, "clashes", "()I"⟩
abbrev c_Tt_pairs : ByteArray := prog_9_method_11_code
def y_Tt_pairs : MethodName := ⟨R_Tt, "pairs", "(LGorgeRopes$Ropes;LGorgeRopes$Trips;I)I"⟩
abbrev c_GR_putOff : ByteArray := prog_1_method_15_code
def y_GR_putOff : MethodName := ⟨R_GR, "putOff", "(I)I"⟩
abbrev c_Tt_beginWithoutClash : ByteArray := prog_9_method_7_code
def y_Tt_beginWithoutClash : MethodName := ⟨R_Tt, "beginWithoutClash", "(LGorgeRopes$Ropes;LGorgeRopes$Trips;I)V"⟩
abbrev c_Rs_ranked : ByteArray := prog_5_method_5_code
def y_Rs_ranked : MethodName := ⟨R_Rs, "ranked", "(I)I"⟩
abbrev c_Tt_delay : ByteArray := prog_9_method_8_code
def y_Tt_delay : MethodName := ⟨R_Tt, "delay", "(LGorgeRopes$Ropes;LGorgeRopes$Trips;II)V"⟩
abbrev c_Tt_firstInWay : ByteArray := prog_9_method_9_code
def y_Tt_firstInWay : MethodName := ⟨R_Tt, "firstInWay", "(LGorgeRopes$Ropes;LGorgeRopes$Trips;II)I"⟩
abbrev c_Tt_nextMinute : ByteArray := prog_9_method_10_code
def y_Tt_nextMinute : MethodName := ⟨R_Tt, "nextMinute", "(LGorgeRopes$Ropes;LGorgeRopes$Trips;II)I"⟩
abbrev c_GR_frayed : ByteArray := prog_1_method_16_code
def y_GR_frayed : MethodName := ⟨R_GR, "frayed", "(II)I"⟩
abbrev c_Ts_frayOf : ByteArray := prog_11_method_7_code
def y_Ts_frayOf : MethodName := ⟨R_Ts, "frayOf", "(I)I"⟩
abbrev c_Ts_breakerOf : ByteArray := prog_11_method_8_code
def y_Ts_breakerOf : MethodName := ⟨R_Ts, "breakerOf", "(II)I"⟩
abbrev c_GR_yet : ByteArray := prog_1_method_17_code
def y_GR_yet : MethodName := ⟨R_GR, "yet", "(II)I"⟩
abbrev c_GR_heavy : ByteArray := prog_1_method_18_code
def y_GR_heavy : MethodName := ⟨R_GR, "heavy", "()I"⟩
abbrev c_GR_wind : ByteArray := prog_1_method_19_code
def y_GR_wind : MethodName := ⟨R_GR, "wind", "(I)I"⟩
abbrev c_Tt_beginBlown : ByteArray := prog_9_method_5_code
def y_Tt_beginBlown : MethodName := ⟨R_Tt, "beginBlown", "(LGorgeRopes$Ropes;LGorgeRopes$Trips;I)V"⟩
abbrev c_Tt_windLot : ByteArray := prog_9_method_6_code
def y_Tt_windLot : MethodName := ⟨R_Tt, "windLot", "()I"⟩
abbrev c_GR_part : ByteArray := prog_1_method_20_code
def y_GR_part : MethodName := ⟨R_GR, "part", "(II)I"⟩
abbrev c_Mi_isFull : ByteArray := prog_3_method_2_code
def y_Mi_isFull : MethodName := ⟨R_Mi, "isFull", "()Z"⟩
abbrev c_Mi_append : ByteArray := prog_3_method_3_code
def y_Mi_append : MethodName := ⟨R_Mi, "append", "(II)V"⟩
abbrev c_GR_gone : ByteArray := prog_1_method_21_code
def y_GR_gone : MethodName := ⟨R_GR, "gone", "()I"⟩
abbrev c_Mi_drop : ByteArray := prog_3_method_4_code
def y_Mi_drop : MethodName := ⟨R_Mi, "drop", "()I"⟩
abbrev c_GR_sent : ByteArray := prog_1_method_22_code
def y_GR_sent : MethodName := ⟨R_GR, "sent", "(I)I"⟩
abbrev c_Mi_reckon : ByteArray := prog_3_method_6_code
def y_Mi_reckon : MethodName := ⟨R_Mi, "reckon", "(LGorgeRopes$Ropes;II)V"⟩
abbrev c_Mi_reckonAlone : ByteArray := prog_3_method_7_code
def y_Mi_reckonAlone : MethodName := ⟨R_Mi, "reckonAlone", "(LGorgeRopes$Rope;II)V"⟩
abbrev c_Mi_keyOf : ByteArray := prog_3_method_8_code
def y_Mi_keyOf : MethodName := ⟨R_Mi, "keyOf", "(LGorgeRopes$Rope;II)I"⟩
abbrev c_Mi_rowShift : ByteArray := prog_3_method_9_code
def y_Mi_rowShift : MethodName := ⟨R_Mi, "rowShift", "(I)I"⟩
abbrev c_JI_bitCount : ByteArray := prog_14_method_49_code
def y_JI_bitCount : MethodName := ⟨R_JI, "bitCount", "(I)I"⟩
abbrev c_Mi_timeOf : ByteArray := prog_3_method_10_code
def y_Mi_timeOf : MethodName := ⟨R_Mi, "timeOf", "(LGorgeRopes$Rope;I)I"⟩
abbrev c_Mi_join : ByteArray := prog_3_method_11_code
def y_Mi_join : MethodName := ⟨R_Mi, "join", "()V"⟩
abbrev c_Mi_all : ByteArray := prog_3_method_5_code
def y_Mi_all : MethodName := ⟨R_Mi, "all", "()I"⟩
abbrev c_Mi_leastJoined : ByteArray := prog_3_method_12_code
def y_Mi_leastJoined : MethodName := ⟨R_Mi, "leastJoined", "(I)I"⟩
abbrev c_GR_sentAsReckoned : ByteArray := prog_1_method_46_code
def y_GR_sentAsReckoned : MethodName := ⟨R_GR, "sentAsReckoned", "(I)I"⟩
abbrev c_Mi_leastCost : ByteArray := prog_3_method_14_code
def y_Mi_leastCost : MethodName := ⟨R_Mi, "leastCost", "()I"⟩
abbrev c_Mi_leastKey : ByteArray := prog_3_method_13_code
def y_Mi_leastKey : MethodName := ⟨R_Mi, "leastKey", "()I"⟩
abbrev c_Mi_costOf : ByteArray := prog_3_method_15_code
def y_Mi_costOf : MethodName := ⟨R_Mi, "costOf", "(I)I"⟩
abbrev c_Mi_timeThen : ByteArray := prog_3_method_17_code
def y_Mi_timeThen : MethodName := ⟨R_Mi, "timeThen", "(LGorgeRopes$Ropes;)I"⟩
abbrev c_Mi_ropeThen : ByteArray := prog_3_method_16_code
def y_Mi_ropeThen : MethodName := ⟨R_Mi, "ropeThen", "(I)I"⟩
abbrev c_GR_cut : ByteArray := prog_1_method_23_code
def y_GR_cut : MethodName := ⟨R_GR, "cut", "(I)I"⟩
abbrev c_GR_cutAsTold : ByteArray := prog_1_method_47_code
def y_GR_cutAsTold : MethodName := ⟨R_GR, "cutAsTold", "(I)I"⟩
abbrev c_GR_needed : ByteArray := prog_1_method_24_code
def y_GR_needed : MethodName := ⟨R_GR, "needed", "()I"⟩
abbrev c_GR_pegs : ByteArray := prog_1_method_25_code
def y_GR_pegs : MethodName := ⟨R_GR, "pegs", "(IIII)I"⟩
abbrev c_Mi_seekPegs : ByteArray := prog_3_method_18_code
def y_Mi_seekPegs : MethodName := ⟨R_Mi, "seekPegs", "(LGorgeRopes$Ropes;IIII)V"⟩
abbrev c_Mi_tryPegs : ByteArray := prog_3_method_19_code
def y_Mi_tryPegs : MethodName := ⟨R_Mi, "tryPegs", "(LGorgeRopes$Ropes;I)V"⟩
abbrev c_Mi_foundPegs : ByteArray := prog_3_method_20_code
def y_Mi_foundPegs : MethodName := ⟨R_Mi, "foundPegs", "(I)I"⟩
abbrev c_GR_balance : ByteArray := prog_1_method_26_code
def y_GR_balance : MethodName := ⟨R_GR, "balance", "(I)I"⟩
abbrev c_Fe_balanceOf : ByteArray := prog_2_method_4_code
def y_Fe_balanceOf : MethodName := ⟨R_Fe, "balanceOf", "(LGorgeRopes$Ropes;LGorgeRopes$Trips;I)I"⟩
abbrev c_Fe_fareOf : ByteArray := prog_2_method_2_code
def y_Fe_fareOf : MethodName := ⟨R_Fe, "fareOf", "(LGorgeRopes$Ropes;LGorgeRopes$Trip;)I"⟩
abbrev c_GR_settled : ByteArray := prog_1_method_27_code
def y_GR_settled : MethodName := ⟨R_GR, "settled", "()I"⟩
abbrev c_Fe_payments : ByteArray := prog_2_method_5_code
def y_Fe_payments : MethodName := ⟨R_Fe, "payments", "(LGorgeRopes$Ropes;LGorgeRopes$Trips;)I"⟩
abbrev c_Fe_mostGroups : ByteArray := prog_2_method_6_code
def y_Fe_mostGroups : MethodName := ⟨R_Fe, "mostGroups", "()I"⟩
abbrev c_GR_knots : ByteArray := prog_1_method_28_code
def y_GR_knots : MethodName := ⟨R_GR, "knots", "(III)J"⟩
abbrev c_Fe_ways : ByteArray := prog_2_method_7_code
def y_Fe_ways : MethodName := ⟨R_Fe, "ways", "(III)J"⟩
abbrev c_Fe_addTrip : ByteArray := prog_2_method_8_code
def y_Fe_addTrip : MethodName := ⟨R_Fe, "addTrip", "(I)V"⟩
abbrev c_GR_sheet : ByteArray := prog_1_method_29_code
def y_GR_sheet : MethodName := ⟨R_GR, "sheet", "(III)I"⟩
abbrev c_Sh_renew : ByteArray := prog_6_method_3_code
def y_Sh_renew : MethodName := ⟨R_Sh, "renew", "(II)V"⟩
abbrev c_GR_lose : ByteArray := prog_1_method_30_code
def y_GR_lose : MethodName := ⟨R_GR, "lose", "(I)I"⟩
abbrev c_GR_lay : ByteArray := prog_1_method_31_code
def y_GR_lay : MethodName := ⟨R_GR, "lay", "(IIII)I"⟩
abbrev c_Ss_findingAt : ByteArray := prog_7_method_4_code
def y_Ss_findingAt : MethodName := ⟨R_Ss, "findingAt", "(III)I"⟩
abbrev c_Sh_put : ByteArray := prog_6_method_5_code
def y_Sh_put : MethodName := ⟨R_Sh, "put", "(II)V"⟩
abbrev c_Sh_fitted : ByteArray := prog_6_method_6_code
def y_Sh_fitted : MethodName := ⟨R_Sh, "fitted", "(I)I"⟩
abbrev c_GR_get : ByteArray := prog_1_method_32_code
def y_GR_get : MethodName := ⟨R_GR, "get", "(III)I"⟩
abbrev c_GR_copy : ByteArray := prog_1_method_33_code
def y_GR_copy : MethodName := ⟨R_GR, "copy", "(IIIII)I"⟩
abbrev c_Sh_hasRun : ByteArray := prog_6_method_7_code
def y_Sh_hasRun : MethodName := ⟨R_Sh, "hasRun", "(II)Z"⟩
abbrev c_GR_write : ByteArray := prog_1_method_34_code
def y_GR_write : MethodName := ⟨R_GR, "write", "(I)I"⟩
abbrev c_GR_count : ByteArray := prog_1_method_35_code
def y_GR_count : MethodName := ⟨R_GR, "count", "(I)I"⟩
abbrev c_GR_tripsThatCount : ByteArray := prog_1_method_45_code
def y_GR_tripsThatCount : MethodName := ⟨R_GR, "tripsThatCount", "()I"⟩
abbrev c_Rs_pairsThatMeet : ByteArray := prog_5_method_7_code
def y_Rs_pairsThatMeet : MethodName := ⟨R_Rs, "pairsThatMeet", "()I"⟩
abbrev c_Fe_allFares : ByteArray := prog_2_method_3_code
def y_Fe_allFares : MethodName := ⟨R_Fe, "allFares", "(LGorgeRopes$Ropes;LGorgeRopes$Trips;)I"⟩
abbrev c_GR_digest : ByteArray := prog_1_method_36_code
def y_GR_digest : MethodName := ⟨R_GR, "digest", "()J"⟩
abbrev c_GR_mixed : ByteArray := prog_1_method_39_code
def y_GR_mixed : MethodName := ⟨R_GR, "mixed", "(JJ)J"⟩
abbrev c_GR_mixedRope : ByteArray := prog_1_method_48_code
def y_GR_mixedRope : MethodName := ⟨R_GR, "mixedRope", "(JI)J"⟩
abbrev c_GR_mixedMill : ByteArray := prog_1_method_49_code
def y_GR_mixedMill : MethodName := ⟨R_GR, "mixedMill", "(J)J"⟩
abbrev c_Md_init : ByteArray := prog_13_method_1_code
def y_Md_init : MethodName := ⟨R_Md, "<init>", "()V"⟩
abbrev c_Md_sheet : ByteArray := prog_13_method_10_code
def y_Md_sheet : MethodName := ⟨R_Md, "sheet", "(III)I"⟩
abbrev c_Md_isSheet : ByteArray := prog_13_method_9_code
def y_Md_isSheet : MethodName := ⟨R_Md, "isSheet", "(I)Z"⟩
abbrev c_Md_in : ByteArray := prog_13_method_3_code
def y_Md_in : MethodName := ⟨R_Md, "in", "(JJJ)Z"⟩
abbrev c_Md_met : ByteArray := prog_13_method_8_code
def y_Md_met : MethodName := ⟨R_Md, "met", "(I)I"⟩
abbrev c_Md_lose : ByteArray := prog_13_method_11_code
def y_Md_lose : MethodName := ⟨R_Md, "lose", "(I)I"⟩
abbrev c_Md_lay : ByteArray := prog_13_method_14_code
def y_Md_lay : MethodName := ⟨R_Md, "lay", "(IIII)I"⟩
abbrev c_Md_lacks : ByteArray := prog_13_method_12_code
def y_Md_lacks : MethodName := ⟨R_Md, "lacks", "(III)I"⟩
abbrev c_Md_cutTo : ByteArray := prog_13_method_13_code
def y_Md_cutTo : MethodName := ⟨R_Md, "cutTo", "(II)I"⟩
abbrev c_Md_get : ByteArray := prog_13_method_15_code
def y_Md_get : MethodName := ⟨R_Md, "get", "(III)I"⟩
abbrev c_Md_copy : ByteArray := prog_13_method_16_code
def y_Md_copy : MethodName := ⟨R_Md, "copy", "(IIIII)I"⟩
abbrev c_Md_type : ByteArray := prog_13_method_17_code
def y_Md_type : MethodName := ⟨R_Md, "type", "(II)I"⟩
abbrev c_Md_isTwo : ByteArray := prog_13_method_5_code
def y_Md_isTwo : MethodName := ⟨R_Md, "isTwo", "(I)Z"⟩
abbrev c_Md_wipe : ByteArray := prog_13_method_18_code
def y_Md_wipe : MethodName := ⟨R_Md, "wipe", "(I)I"⟩
abbrev c_Md_fault : ByteArray := prog_13_method_26_code
def y_Md_fault : MethodName := ⟨R_Md, "fault", "(I)I"⟩
abbrev c_Md_faultOf : ByteArray := prog_13_method_25_code
def y_Md_faultOf : MethodName := ⟨R_Md, "faultOf", "(I)I"⟩
abbrev c_Md_readsRopes : ByteArray := prog_13_method_22_code
def y_Md_readsRopes : MethodName := ⟨R_Md, "readsRopes", "()I"⟩
abbrev c_Md_readsRope : ByteArray := prog_13_method_21_code
def y_Md_readsRope : MethodName := ⟨R_Md, "readsRope", "()Z"⟩
abbrev c_Md_here : ByteArray := prog_13_method_19_code
def y_Md_here : MethodName := ⟨R_Md, "here", "()I"⟩
abbrev c_Md_kindOf : ByteArray := prog_13_method_20_code
def y_Md_kindOf : MethodName := ⟨R_Md, "kindOf", "(I)I"⟩
abbrev c_Md_find : ByteArray := prog_13_method_24_code
def y_Md_find : MethodName := ⟨R_Md, "find", "()I"⟩
abbrev c_Md_readsRight : ByteArray := prog_13_method_23_code
def y_Md_readsRight : MethodName := ⟨R_Md, "readsRight", "()I"⟩
abbrev c_Md_isRope : ByteArray := prog_13_method_27_code
def y_Md_isRope : MethodName := ⟨R_Md, "isRope", "(I)Z"⟩
abbrev c_Md_rope : ByteArray := prog_13_method_30_code
def y_Md_rope : MethodName := ⟨R_Md, "rope", "(II)I"⟩
abbrev c_Md_hasRope : ByteArray := prog_13_method_28_code
def y_Md_hasRope : MethodName := ⟨R_Md, "hasRope", "(I)Z"⟩
abbrev c_Md_ropeOf : ByteArray := prog_13_method_29_code
def y_Md_ropeOf : MethodName := ⟨R_Md, "ropeOf", "(II)I"⟩
abbrev c_Md_crosses : ByteArray := prog_13_method_35_code
def y_Md_crosses : MethodName := ⟨R_Md, "crosses", "(III)I"⟩
abbrev c_Md_areTwo : ByteArray := prog_13_method_34_code
def y_Md_areTwo : MethodName := ⟨R_Md, "areTwo", "(II)Z"⟩
abbrev c_Md_crossesWith : ByteArray := prog_13_method_33_code
def y_Md_crossesWith : MethodName := ⟨R_Md, "crossesWith", "(I)I"⟩
abbrev c_Md_doCross : ByteArray := prog_13_method_32_code
def y_Md_doCross : MethodName := ⟨R_Md, "doCross", "(II)Z"⟩
abbrev c_Md_above : ByteArray := prog_13_method_31_code
def y_Md_above : MethodName := ⟨R_Md, "above", "(III)I"⟩
abbrev c_Md_crossing : ByteArray := prog_13_method_39_code
def y_Md_crossing : MethodName := ⟨R_Md, "crossing", "(IIII)J"⟩
abbrev c_Md_crossingOf : ByteArray := prog_13_method_38_code
def y_Md_crossingOf : MethodName := ⟨R_Md, "crossingOf", "(IIII)J"⟩
abbrev c_Md_no : ByteArray := prog_13_method_4_code
def y_Md_no : MethodName := ⟨R_Md, "no", "(I)J"⟩
abbrev c_Md_findPlace : ByteArray := prog_13_method_37_code
def y_Md_findPlace : MethodName := ⟨R_Md, "findPlace", "(II)V"⟩
abbrev c_Md_shareOf : ByteArray := prog_13_method_36_code
def y_Md_shareOf : MethodName := ⟨R_Md, "shareOf", "(JJI)J"⟩
abbrev c_Md_takes : ByteArray := prog_13_method_43_code
def y_Md_takes : MethodName := ⟨R_Md, "takes", "(IIII)I"⟩
abbrev c_Md_isFigure : ByteArray := prog_13_method_6_code
def y_Md_isFigure : MethodName := ⟨R_Md, "isFigure", "(I)Z"⟩
abbrev c_Md_minutes : ByteArray := prog_13_method_41_code
def y_Md_minutes : MethodName := ⟨R_Md, "minutes", "(II)I"⟩
abbrev c_Md_rises : ByteArray := prog_13_method_40_code
def y_Md_rises : MethodName := ⟨R_Md, "rises", "(II)I"⟩
abbrev c_Md_costs : ByteArray := prog_13_method_42_code
def y_Md_costs : MethodName := ⟨R_Md, "costs", "(III)I"⟩
abbrev c_Md_set : ByteArray := prog_13_method_44_code
def y_Md_set : MethodName := ⟨R_Md, "set", "(II)I"⟩
abbrev c_Md_trip : ByteArray := prog_13_method_45_code
def y_Md_trip : MethodName := ⟨R_Md, "trip", "(IIIII)I"⟩
abbrev c_Md_isOwner : ByteArray := prog_13_method_7_code
def y_Md_isOwner : MethodName := ⟨R_Md, "isOwner", "(I)Z"⟩
abbrev c_Md_read : ByteArray := prog_13_method_46_code
def y_Md_read : MethodName := ⟨R_Md, "read", "(II)I"⟩
abbrev c_Md_undo : ByteArray := prog_13_method_47_code
def y_Md_undo : MethodName := ⟨R_Md, "undo", "()I"⟩
abbrev c_Md_clash : ByteArray := prog_13_method_54_code
def y_Md_clash : MethodName := ⟨R_Md, "clash", "(III)I"⟩
abbrev c_Md_isTrip : ByteArray := prog_13_method_48_code
def y_Md_isTrip : MethodName := ⟨R_Md, "isTrip", "(I)Z"⟩
abbrev c_Md_asTold : ByteArray := prog_13_method_50_code
def y_Md_asTold : MethodName := ⟨R_Md, "asTold", "()V"⟩
abbrev c_Md_doClash : ByteArray := prog_13_method_53_code
def y_Md_doClash : MethodName := ⟨R_Md, "doClash", "(II)Z"⟩
abbrev c_Md_counts : ByteArray := prog_13_method_49_code
def y_Md_counts : MethodName := ⟨R_Md, "counts", "(I)Z"⟩
abbrev c_Md_lasts : ByteArray := prog_13_method_51_code
def y_Md_lasts : MethodName := ⟨R_Md, "lasts", "(I)I"⟩
abbrev c_Md_moment : ByteArray := prog_13_method_52_code
def y_Md_moment : MethodName := ⟨R_Md, "moment", "(I)I"⟩
abbrev c_Md_clashes : ByteArray := prog_13_method_56_code
def y_Md_clashes : MethodName := ⟨R_Md, "clashes", "()I"⟩
abbrev c_Md_clashesNow : ByteArray := prog_13_method_55_code
def y_Md_clashesNow : MethodName := ⟨R_Md, "clashesNow", "()I"⟩
abbrev c_Md_putOff : ByteArray := prog_13_method_60_code
def y_Md_putOff : MethodName := ⟨R_Md, "putOff", "(I)I"⟩
abbrev c_Md_findPutOff : ByteArray := prog_13_method_59_code
def y_Md_findPutOff : MethodName := ⟨R_Md, "findPutOff", "()V"⟩
abbrev c_Md_clashesAhead : ByteArray := prog_13_method_58_code
def y_Md_clashesAhead : MethodName := ⟨R_Md, "clashesAhead", "(I)Z"⟩
abbrev c_Md_isAhead : ByteArray := prog_13_method_57_code
def y_Md_isAhead : MethodName := ⟨R_Md, "isAhead", "(II)Z"⟩
abbrev c_Md_frayed : ByteArray := prog_13_method_62_code
def y_Md_frayed : MethodName := ⟨R_Md, "frayed", "(II)I"⟩
abbrev c_Md_frayedOf : ByteArray := prog_13_method_61_code
def y_Md_frayedOf : MethodName := ⟨R_Md, "frayedOf", "(II)I"⟩
abbrev c_Md_yet : ByteArray := prog_13_method_63_code
def y_Md_yet : MethodName := ⟨R_Md, "yet", "(II)I"⟩
abbrev c_Md_heavy : ByteArray := prog_13_method_65_code
def y_Md_heavy : MethodName := ⟨R_Md, "heavy", "()I"⟩
abbrev c_Md_heavyNow : ByteArray := prog_13_method_64_code
def y_Md_heavyNow : MethodName := ⟨R_Md, "heavyNow", "()I"⟩
abbrev c_Md_wind : ByteArray := prog_13_method_67_code
def y_Md_wind : MethodName := ⟨R_Md, "wind", "(I)I"⟩
abbrev c_Md_lot : ByteArray := prog_13_method_66_code
def y_Md_lot : MethodName := ⟨R_Md, "lot", "(I)I"⟩
abbrev c_Md_part : ByteArray := prog_13_method_68_code
def y_Md_part : MethodName := ⟨R_Md, "part", "(II)I"⟩
abbrev c_Md_gone : ByteArray := prog_13_method_69_code
def y_Md_gone : MethodName := ⟨R_Md, "gone", "()I"⟩
abbrev c_Md_sent : ByteArray := prog_13_method_76_code
def y_Md_sent : MethodName := ⟨R_Md, "sent", "(I)I"⟩
abbrev c_Md_findSent : ByteArray := prog_13_method_75_code
def y_Md_findSent : MethodName := ⟨R_Md, "findSent", "(II)V"⟩
abbrev c_Md_goesOn : ByteArray := prog_13_method_72_code
def y_Md_goesOn : MethodName := ⟨R_Md, "goesOn", "(ZII)Z"⟩
abbrev c_Md_nextRope : ByteArray := prog_13_method_71_code
def y_Md_nextRope : MethodName := ⟨R_Md, "nextRope", "(IIII)I"⟩
abbrev c_Md_mayGo : ByteArray := prog_13_method_70_code
def y_Md_mayGo : MethodName := ⟨R_Md, "mayGo", "(III)Z"⟩
abbrev c_Md_rowCost : ByteArray := prog_13_method_73_code
def y_Md_rowCost : MethodName := ⟨R_Md, "rowCost", "()I"⟩
abbrev c_Md_rowTime : ByteArray := prog_13_method_74_code
def y_Md_rowTime : MethodName := ⟨R_Md, "rowTime", "()I"⟩
abbrev c_Md_cut : ByteArray := prog_13_method_78_code
def y_Md_cut : MethodName := ⟨R_Md, "cut", "(I)I"⟩
abbrev c_Md_cutOf : ByteArray := prog_13_method_77_code
def y_Md_cutOf : MethodName := ⟨R_Md, "cutOf", "(I)I"⟩
abbrev c_Md_needed : ByteArray := prog_13_method_80_code
def y_Md_needed : MethodName := ⟨R_Md, "needed", "()I"⟩
abbrev c_Md_neededNow : ByteArray := prog_13_method_79_code
def y_Md_neededNow : MethodName := ⟨R_Md, "neededNow", "()I"⟩
abbrev c_Md_pegs : ByteArray := prog_13_method_82_code
def y_Md_pegs : MethodName := ⟨R_Md, "pegs", "(IIII)I"⟩
abbrev c_Md_findPegs : ByteArray := prog_13_method_81_code
def y_Md_findPegs : MethodName := ⟨R_Md, "findPegs", "(III)V"⟩
abbrev c_Md_balance : ByteArray := prog_13_method_85_code
def y_Md_balance : MethodName := ⟨R_Md, "balance", "(I)I"⟩
abbrev c_Md_balanceOf : ByteArray := prog_13_method_84_code
def y_Md_balanceOf : MethodName := ⟨R_Md, "balanceOf", "(I)I"⟩
abbrev c_Md_findBalances : ByteArray := prog_13_method_83_code
def y_Md_findBalances : MethodName := ⟨R_Md, "findBalances", "()V"⟩
abbrev c_Md_settled : ByteArray := prog_13_method_88_code
def y_Md_settled : MethodName := ⟨R_Md, "settled", "()I"⟩
abbrev c_Md_settledNow : ByteArray := prog_13_method_87_code
def y_Md_settledNow : MethodName := ⟨R_Md, "settledNow", "()I"⟩
abbrev c_Md_sumOf : ByteArray := prog_13_method_86_code
def y_Md_sumOf : MethodName := ⟨R_Md, "sumOf", "(I)I"⟩
abbrev c_Md_knots : ByteArray := prog_13_method_89_code
def y_Md_knots : MethodName := ⟨R_Md, "knots", "(III)J"⟩
abbrev c_Md_write : ByteArray := prog_13_method_90_code
def y_Md_write : MethodName := ⟨R_Md, "write", "(I)I"⟩
abbrev c_Md_count : ByteArray := prog_13_method_91_code
def y_Md_count : MethodName := ⟨R_Md, "count", "(I)I"⟩
abbrev c_Md_digest : ByteArray := prog_13_method_92_code
def y_Md_digest : MethodName := ⟨R_Md, "digest", "()J"⟩
/-! the shape of the cells: once they are made it stays -/
abbrev Shp : Type := (Nat × List (Option Nat)) ⊕ (Nat × Nat × (Nat → Nat))
def shl : List Shp := [.inl (10, [some 1, some 3, some 5, some 17, some 18, some 41, some 43, some 49, some 54]),
  .inl (6, [some 2, none, none]),
  .inr (0, 60, fun _ => 0),
  .inl (6, [some 4, none, none]),
  .inr (0, 60, fun _ => 0),
  .inl (3, [some 6, some 7, some 8, none, none, none]),
  .inr (2, 8, fun j => 9 + j),
  .inl (2, [none, none, none, none, none, none, none, none, none]),
  .inr (0, 8, fun _ => 0),
  .inl (2, [none, none, none, none, none, none, none, none, none]),
  .inl (2, [none, none, none, none, none, none, none, none, none]),
  .inl (2, [none, none, none, none, none, none, none, none, none]),
  .inl (2, [none, none, none, none, none, none, none, none, none]),
  .inl (2, [none, none, none, none, none, none, none, none, none]),
  .inl (2, [none, none, none, none, none, none, none, none, none]),
  .inl (2, [none, none, none, none, none, none, none, none, none]),
  .inl (2, [none, none, none, none, none, none, none, none, none]),
  .inr (0, 3, fun _ => 0),
  .inl (9, [some 19, some 20, none]),
  .inr (3, 20, fun j => 21 + j),
  .inl (8, [none, none, none, none, none]),
  .inl (8, [none, none, none, none, none]),
  .inl (8, [none, none, none, none, none]),
  .inl (8, [none, none, none, none, none]),
  .inl (8, [none, none, none, none, none]),
  .inl (8, [none, none, none, none, none]),
  .inl (8, [none, none, none, none, none]),
  .inl (8, [none, none, none, none, none]),
  .inl (8, [none, none, none, none, none]),
  .inl (8, [none, none, none, none, none]),
  .inl (8, [none, none, none, none, none]),
  .inl (8, [none, none, none, none, none]),
  .inl (8, [none, none, none, none, none]),
  .inl (8, [none, none, none, none, none]),
  .inl (8, [none, none, none, none, none]),
  .inl (8, [none, none, none, none, none]),
  .inl (8, [none, none, none, none, none]),
  .inl (8, [none, none, none, none, none]),
  .inl (8, [none, none, none, none, none]),
  .inl (8, [none, none, none, none, none]),
  .inl (8, [none, none, none, none, none]),
  .inl (7, [some 42, none]),
  .inr (0, 20, fun _ => 0),
  .inl (1, [some 44, some 45, some 46, some 47, some 48, none, none, none, none, none]),
  .inr (0, 5, fun _ => 0),
  .inr (0, 5, fun _ => 0),
  .inr (0, 32, fun _ => 0),
  .inr (0, 32, fun _ => 0),
  .inl (2, [none, none, none, none, none, none, none, none, none]),
  .inl (0, [some 50, some 51, some 52, some 53]),
  .inr (0, 5, fun _ => 0),
  .inr (0, 32, fun _ => 0),
  .inr (0, 32, fun _ => 0),
  .inr (1, 100, fun _ => 0),
  .inl (5, [some 55, some 56, none]),
  .inr (4, 4, fun j => 58 + 2 * j),
  .inl (4, [some 57, none, none]),
  .inr (0, 60, fun _ => 0),
  .inl (4, [some 59, none, none]),
  .inr (0, 60, fun _ => 0),
  .inl (4, [some 61, none, none]),
  .inr (0, 60, fun _ => 0),
  .inl (4, [some 63, none, none]),
  .inr (0, 60, fun _ => 0),
  .inl (4, [some 65, none, none]),
  .inr (0, 60, fun _ => 0),
  .inl (11, [some 67, some 68, some 69, some 70, none, some 71, some 72, none, none, some 73, some 74, some 75, none, none, none, some 76, some 77, none, none, some 78, some 79, some 80, some 81, some 82, none, none, none, none, none, some 83, some 84, some 85, some 86]),
  .inr (0, 4, fun _ => 0),
  .inr (0, 4, fun _ => 0),
  .inr (0, 240, fun _ => 0),
  .inr (0, 60, fun _ => 0),
  .inr (0, 70, fun _ => 0),
  .inr (0, 2, fun _ => 0),
  .inr (0, 54, fun _ => 0),
  .inr (0, 8, fun _ => 0),
  .inr (0, 3, fun _ => 0),
  .inr (0, 100, fun _ => 0),
  .inr (0, 20, fun _ => 0),
  .inr (0, 5, fun _ => 0),
  .inr (0, 5, fun _ => 0),
  .inr (0, 5, fun _ => 0),
  .inr (0, 5, fun _ => 0),
  .inr (0, 9, fun _ => 0),
  .inr (0, 5, fun _ => 0),
  .inr (0, 32, fun _ => 0),
  .inr (1, 100, fun _ => 0),
  .inr (1, 100, fun _ => 0)]
def Sh (i : Nat) (x : Shp) : Prop := i < 87 ∧ shl[i]? = some x
theorem sh_0 : Sh 0 (.inl (10, [some 1, some 3, some 5, some 17, some 18, some 41, some 43, some 49, some 54])) := ⟨by decide, rfl⟩
theorem sh_1 : Sh 1 (.inl (6, [some 2, none, none])) := ⟨by decide, rfl⟩
theorem sh_2 : Sh 2 (.inr (0, 60, fun _ => 0)) := ⟨by decide, rfl⟩
theorem sh_3 : Sh 3 (.inl (6, [some 4, none, none])) := ⟨by decide, rfl⟩
theorem sh_4 : Sh 4 (.inr (0, 60, fun _ => 0)) := ⟨by decide, rfl⟩
theorem sh_5 : Sh 5 (.inl (3, [some 6, some 7, some 8, none, none, none])) := ⟨by decide, rfl⟩
theorem sh_6 : Sh 6 (.inr (2, 8, fun j => 9 + j)) := ⟨by decide, rfl⟩
theorem sh_7 : Sh 7 (.inl (2, [none, none, none, none, none, none, none, none, none])) := ⟨by decide, rfl⟩
theorem sh_8 : Sh 8 (.inr (0, 8, fun _ => 0)) := ⟨by decide, rfl⟩
theorem sh_9 : Sh 9 (.inl (2, [none, none, none, none, none, none, none, none, none])) := ⟨by decide, rfl⟩
theorem sh_10 : Sh 10 (.inl (2, [none, none, none, none, none, none, none, none, none])) := ⟨by decide, rfl⟩
theorem sh_11 : Sh 11 (.inl (2, [none, none, none, none, none, none, none, none, none])) := ⟨by decide, rfl⟩
theorem sh_12 : Sh 12 (.inl (2, [none, none, none, none, none, none, none, none, none])) := ⟨by decide, rfl⟩
theorem sh_13 : Sh 13 (.inl (2, [none, none, none, none, none, none, none, none, none])) := ⟨by decide, rfl⟩
theorem sh_14 : Sh 14 (.inl (2, [none, none, none, none, none, none, none, none, none])) := ⟨by decide, rfl⟩
theorem sh_15 : Sh 15 (.inl (2, [none, none, none, none, none, none, none, none, none])) := ⟨by decide, rfl⟩
theorem sh_16 : Sh 16 (.inl (2, [none, none, none, none, none, none, none, none, none])) := ⟨by decide, rfl⟩
theorem sh_17 : Sh 17 (.inr (0, 3, fun _ => 0)) := ⟨by decide, rfl⟩
theorem sh_18 : Sh 18 (.inl (9, [some 19, some 20, none])) := ⟨by decide, rfl⟩
theorem sh_19 : Sh 19 (.inr (3, 20, fun j => 21 + j)) := ⟨by decide, rfl⟩
theorem sh_20 : Sh 20 (.inl (8, [none, none, none, none, none])) := ⟨by decide, rfl⟩
theorem sh_21 : Sh 21 (.inl (8, [none, none, none, none, none])) := ⟨by decide, rfl⟩
theorem sh_22 : Sh 22 (.inl (8, [none, none, none, none, none])) := ⟨by decide, rfl⟩
theorem sh_23 : Sh 23 (.inl (8, [none, none, none, none, none])) := ⟨by decide, rfl⟩
theorem sh_24 : Sh 24 (.inl (8, [none, none, none, none, none])) := ⟨by decide, rfl⟩
theorem sh_25 : Sh 25 (.inl (8, [none, none, none, none, none])) := ⟨by decide, rfl⟩
theorem sh_26 : Sh 26 (.inl (8, [none, none, none, none, none])) := ⟨by decide, rfl⟩
theorem sh_27 : Sh 27 (.inl (8, [none, none, none, none, none])) := ⟨by decide, rfl⟩
theorem sh_28 : Sh 28 (.inl (8, [none, none, none, none, none])) := ⟨by decide, rfl⟩
theorem sh_29 : Sh 29 (.inl (8, [none, none, none, none, none])) := ⟨by decide, rfl⟩
theorem sh_30 : Sh 30 (.inl (8, [none, none, none, none, none])) := ⟨by decide, rfl⟩
theorem sh_31 : Sh 31 (.inl (8, [none, none, none, none, none])) := ⟨by decide, rfl⟩
theorem sh_32 : Sh 32 (.inl (8, [none, none, none, none, none])) := ⟨by decide, rfl⟩
theorem sh_33 : Sh 33 (.inl (8, [none, none, none, none, none])) := ⟨by decide, rfl⟩
theorem sh_34 : Sh 34 (.inl (8, [none, none, none, none, none])) := ⟨by decide, rfl⟩
theorem sh_35 : Sh 35 (.inl (8, [none, none, none, none, none])) := ⟨by decide, rfl⟩
theorem sh_36 : Sh 36 (.inl (8, [none, none, none, none, none])) := ⟨by decide, rfl⟩
theorem sh_37 : Sh 37 (.inl (8, [none, none, none, none, none])) := ⟨by decide, rfl⟩
theorem sh_38 : Sh 38 (.inl (8, [none, none, none, none, none])) := ⟨by decide, rfl⟩
theorem sh_39 : Sh 39 (.inl (8, [none, none, none, none, none])) := ⟨by decide, rfl⟩
theorem sh_40 : Sh 40 (.inl (8, [none, none, none, none, none])) := ⟨by decide, rfl⟩
theorem sh_41 : Sh 41 (.inl (7, [some 42, none])) := ⟨by decide, rfl⟩
theorem sh_42 : Sh 42 (.inr (0, 20, fun _ => 0)) := ⟨by decide, rfl⟩
theorem sh_43 : Sh 43 (.inl (1, [some 44, some 45, some 46, some 47, some 48, none, none, none, none, none])) := ⟨by decide, rfl⟩
theorem sh_44 : Sh 44 (.inr (0, 5, fun _ => 0)) := ⟨by decide, rfl⟩
theorem sh_45 : Sh 45 (.inr (0, 5, fun _ => 0)) := ⟨by decide, rfl⟩
theorem sh_46 : Sh 46 (.inr (0, 32, fun _ => 0)) := ⟨by decide, rfl⟩
theorem sh_47 : Sh 47 (.inr (0, 32, fun _ => 0)) := ⟨by decide, rfl⟩
theorem sh_48 : Sh 48 (.inl (2, [none, none, none, none, none, none, none, none, none])) := ⟨by decide, rfl⟩
theorem sh_49 : Sh 49 (.inl (0, [some 50, some 51, some 52, some 53])) := ⟨by decide, rfl⟩
theorem sh_50 : Sh 50 (.inr (0, 5, fun _ => 0)) := ⟨by decide, rfl⟩
theorem sh_51 : Sh 51 (.inr (0, 32, fun _ => 0)) := ⟨by decide, rfl⟩
theorem sh_52 : Sh 52 (.inr (0, 32, fun _ => 0)) := ⟨by decide, rfl⟩
theorem sh_53 : Sh 53 (.inr (1, 100, fun _ => 0)) := ⟨by decide, rfl⟩
theorem sh_54 : Sh 54 (.inl (5, [some 55, some 56, none])) := ⟨by decide, rfl⟩
theorem sh_55 : Sh 55 (.inr (4, 4, fun j => 58 + 2 * j)) := ⟨by decide, rfl⟩
theorem sh_56 : Sh 56 (.inl (4, [some 57, none, none])) := ⟨by decide, rfl⟩
theorem sh_57 : Sh 57 (.inr (0, 60, fun _ => 0)) := ⟨by decide, rfl⟩
theorem sh_58 : Sh 58 (.inl (4, [some 59, none, none])) := ⟨by decide, rfl⟩
theorem sh_59 : Sh 59 (.inr (0, 60, fun _ => 0)) := ⟨by decide, rfl⟩
theorem sh_60 : Sh 60 (.inl (4, [some 61, none, none])) := ⟨by decide, rfl⟩
theorem sh_61 : Sh 61 (.inr (0, 60, fun _ => 0)) := ⟨by decide, rfl⟩
theorem sh_62 : Sh 62 (.inl (4, [some 63, none, none])) := ⟨by decide, rfl⟩
theorem sh_63 : Sh 63 (.inr (0, 60, fun _ => 0)) := ⟨by decide, rfl⟩
theorem sh_64 : Sh 64 (.inl (4, [some 65, none, none])) := ⟨by decide, rfl⟩
theorem sh_65 : Sh 65 (.inr (0, 60, fun _ => 0)) := ⟨by decide, rfl⟩
theorem sh_66 : Sh 66 (.inl (11, [some 67, some 68, some 69, some 70, none, some 71, some 72, none, none, some 73, some 74, some 75, none, none, none, some 76, some 77, none, none, some 78, some 79, some 80, some 81, some 82, none, none, none, none, none, some 83, some 84, some 85, some 86])) := ⟨by decide, rfl⟩
theorem sh_67 : Sh 67 (.inr (0, 4, fun _ => 0)) := ⟨by decide, rfl⟩
theorem sh_68 : Sh 68 (.inr (0, 4, fun _ => 0)) := ⟨by decide, rfl⟩
theorem sh_69 : Sh 69 (.inr (0, 240, fun _ => 0)) := ⟨by decide, rfl⟩
theorem sh_70 : Sh 70 (.inr (0, 60, fun _ => 0)) := ⟨by decide, rfl⟩
theorem sh_71 : Sh 71 (.inr (0, 70, fun _ => 0)) := ⟨by decide, rfl⟩
theorem sh_72 : Sh 72 (.inr (0, 2, fun _ => 0)) := ⟨by decide, rfl⟩
theorem sh_73 : Sh 73 (.inr (0, 54, fun _ => 0)) := ⟨by decide, rfl⟩
theorem sh_74 : Sh 74 (.inr (0, 8, fun _ => 0)) := ⟨by decide, rfl⟩
theorem sh_75 : Sh 75 (.inr (0, 3, fun _ => 0)) := ⟨by decide, rfl⟩
theorem sh_76 : Sh 76 (.inr (0, 100, fun _ => 0)) := ⟨by decide, rfl⟩
theorem sh_77 : Sh 77 (.inr (0, 20, fun _ => 0)) := ⟨by decide, rfl⟩
theorem sh_78 : Sh 78 (.inr (0, 5, fun _ => 0)) := ⟨by decide, rfl⟩
theorem sh_79 : Sh 79 (.inr (0, 5, fun _ => 0)) := ⟨by decide, rfl⟩
theorem sh_80 : Sh 80 (.inr (0, 5, fun _ => 0)) := ⟨by decide, rfl⟩
theorem sh_81 : Sh 81 (.inr (0, 5, fun _ => 0)) := ⟨by decide, rfl⟩
theorem sh_82 : Sh 82 (.inr (0, 9, fun _ => 0)) := ⟨by decide, rfl⟩
theorem sh_83 : Sh 83 (.inr (0, 5, fun _ => 0)) := ⟨by decide, rfl⟩
theorem sh_84 : Sh 84 (.inr (0, 32, fun _ => 0)) := ⟨by decide, rfl⟩
theorem sh_85 : Sh 85 (.inr (1, 100, fun _ => 0)) := ⟨by decide, rfl⟩
theorem sh_86 : Sh 86 (.inr (1, 100, fun _ => 0)) := ⟨by decide, rfl⟩
def is_Ro (i : Nat) : Prop := i = 7 ∨ (9 ≤ i ∧ i < 17) ∨ i = 48
theorem sh_Ro {i : Nat} (h : is_Ro i) : Sh i (.inl (2, [none, none, none, none, none, none, none, none, none])) := by
  have h2 : i = 7 ∨ i = 9 ∨ i = 10 ∨ i = 11 ∨ i = 12 ∨ i = 13 ∨ i = 14 ∨ i = 15 ∨ i = 16 ∨ i = 48 := by unfold is_Ro at h; omega
  rcases h2 with rfl | rfl | rfl | rfl | rfl | rfl | rfl | rfl | rfl | rfl <;> exact ⟨by decide, rfl⟩
def is_Tr (i : Nat) : Prop := 20 ≤ i ∧ i < 41
theorem sh_Tr {i : Nat} (h : is_Tr i) : Sh i (.inl (8, [none, none, none, none, none])) := by
  have h2 : i = 20 ∨ i = 21 ∨ i = 22 ∨ i = 23 ∨ i = 24 ∨ i = 25 ∨ i = 26 ∨ i = 27 ∨ i = 28 ∨ i = 29 ∨ i = 30 ∨ i = 31 ∨ i = 32 ∨ i = 33 ∨ i = 34 ∨ i = 35 ∨ i = 36 ∨ i = 37 ∨ i = 38 ∨ i = 39 ∨ i = 40 := by unfold is_Tr at h; omega
  rcases h2 with rfl | rfl | rfl | rfl | rfl | rfl | rfl | rfl | rfl | rfl | rfl | rfl | rfl | rfl | rfl | rfl | rfl | rfl | rfl | rfl | rfl <;> exact ⟨by decide, rfl⟩
def is_Te (i : Nat) : Prop := i = 1 ∨ i = 3
theorem sh_Te {i : Nat} (h : is_Te i) : Sh i (.inl (6, [some (i + 1), none, none])) := by
  have h2 : i = 1 ∨ i = 3 := by unfold is_Te at h; omega
  rcases h2 with rfl | rfl <;> exact ⟨by decide, rfl⟩
theorem sh_Te_a {i : Nat} (h : is_Te i) : Sh (i + 1) (.inr (0, 60, fun _ => 0)) := by
  have h2 : i = 1 ∨ i = 3 := by unfold is_Te at h; omega
  rcases h2 with rfl | rfl <;> exact ⟨by decide, rfl⟩
def is_Sh (i : Nat) : Prop := i = 56 ∨ i = 58 ∨ i = 60 ∨ i = 62 ∨ i = 64
theorem sh_Sh {i : Nat} (h : is_Sh i) : Sh i (.inl (4, [some (i + 1), none, none])) := by
  have h2 : i = 56 ∨ i = 58 ∨ i = 60 ∨ i = 62 ∨ i = 64 := by unfold is_Sh at h; omega
  rcases h2 with rfl | rfl | rfl | rfl | rfl <;> exact ⟨by decide, rfl⟩
theorem sh_Sh_a {i : Nat} (h : is_Sh i) : Sh (i + 1) (.inr (0, 60, fun _ => 0)) := by
  have h2 : i = 56 ∨ i = 58 ∨ i = 60 ∨ i = 62 ∨ i = 64 := by unfold is_Sh at h; omega
  rcases h2 with rfl | rfl | rfl | rfl | rfl <;> exact ⟨by decide, rfl⟩
end
section
/-! the numbers in the cells: ints by cell and place, longs by cell and place -/
abbrev Sg : Type := (Nat → Nat → Int32) × (Nat → Nat → Int64)
/-- what is fixed once the cells are made: class numbers and slots, the cells' addresses, where new addresses begin, the array kinds' numbers, the two static rows -/
abbrev Vx : Type := va_G × (Nat → Nat) × Nat × (Nat → ClassId) × Nat × Nat
abbrev rf (V : Vx) (i : Nat) : Value := Value.ref (V.2.1 i)
def Ab (V : Vx) : Nat → Prop := fun q => V.2.2.1 ≤ q
def fld (V : Vx) (σ : Sg) (i : Nat) : Nat → List (Option Nat) → List Value
  | _, [] => []
  | k, none :: r => .int (σ.1 i k) :: fld V σ i (k + 1) r
  | k, some j :: r => rf V j :: fld V σ i (k + 1) r
def celS (V : Vx) (σ : Sg) (i : Nat) (x : Shp) : va_E := match x with
  | .inl (ci, sp) => .inr (ci, fld V σ i 0 sp)
  | .inr (0, n, _) => .inl (V.2.2.2.1 0, n, .inl (σ.1 i))
  | .inr (1, n, _) => .inl (V.2.2.2.1 1, n, .inr (.inl (σ.2 i)))
  | .inr (k + 2, n, g) => .inl (V.2.2.2.1 (k + 2), n, .inr (.inr (.inr (.inr (fun j => some (V.2.1 (g j)))))))
def cel (V : Vx) (σ : Sg) (i : Nat) : va_E := celS V σ i (shl.getD i (.inr (0, 0, fun _ => 0)))
def wsv (V : Vx) (σ : Sg) : va_W := (List.range 87).map fun i => (V.2.1 i, cel V σ i)
theorem cel_of {V : Vx} {σ : Sg} {i : Nat} {x : Shp} (h : Sh i x) : cel V σ i = celS V σ i x := by
  unfold cel
  rw [List.getD_eq_getElem?_getD, h.2]
  rfl
theorem wsv_at {V : Vx} {σ : Sg} {i : Nat} {x : Shp} (h : Sh i x) : (wsv V σ)[i]? = some (V.2.1 i, celS V σ i x) := by
  rw [← cel_of (V := V) (σ := σ) h]
  simp [wsv, h.1]
theorem fld_get {V : Vx} {σ : Sg} {i : Nat} : ∀ (sp : List (Option Nat)) (b k : Nat), (fld V σ i b sp)[k]? = (sp[k]?).map (fun x => match x with
    | none => .int (σ.1 i (b + k))
    | some j => rf V j)
  | [], b, k => by simp [fld]
  | none :: r, b, 0 => by simp [fld]
  | some j :: r, b, 0 => by simp [fld]
  | none :: r, b, k + 1 => by simp [fld, fld_get r (b + 1) k, Nat.add_assoc, Nat.add_comm 1 k]
  | some j :: r, b, k + 1 => by simp [fld, fld_get r (b + 1) k, Nat.add_assoc, Nat.add_comm 1 k]
theorem fld_len {V : Vx} {σ : Sg} {i : Nat} : ∀ (sp : List (Option Nat)) (b : Nat), (fld V σ i b sp).length = sp.length
  | [], b => rfl
  | none :: r, b => by simp [fld, fld_len r (b + 1)]
  | some j :: r, b => by simp [fld, fld_len r (b + 1)]
/-- an int is put, a long is put -/
def pI (σ : Sg) (i k : Nat) (v : Int32) : Sg := (fun a b => if a = i ∧ b = k then v else σ.1 a b, σ.2)
def pL (σ : Sg) (i k : Nat) (v : Int64) : Sg := (σ.1, fun a b => if a = i ∧ b = k then v else σ.2 a b)
/-- n ints of a row come to a row -/
def pC (σ : Sg) (i j sp dp n : Nat) : Sg := (fun a b => if a = j then va_cpy (σ.1 i) (σ.1 j) sp dp n b else σ.1 a b, σ.2)
theorem celS_congr {V : Vx} {σ σ' : Sg} {j : Nat} (h1 : σ'.1 j = σ.1 j) (h2 : σ'.2 j = σ.2 j) (x : Shp) : celS V σ' j x = celS V σ j x := by
  have hf : ∀ (sp : List (Option Nat)) (b : Nat), fld V σ' j b sp = fld V σ j b sp := by
    intro sp
    induction sp with
    | nil => intro b; rfl
    | cons x r ih => intro b; cases x <;> simp [fld, ih, h1]
  unfold celS
  split
  · rw [hf]
  · rw [h1]
  · rw [h2]
  · rfl
theorem wsv_set {V : Vx} {σ σ' : Sg} {i : Nat} {x : Shp} (h : Sh i x) (h1 : ∀ j, j ≠ i → σ'.1 j = σ.1 j) (h2 : ∀ j, j ≠ i → σ'.2 j = σ.2 j) : (wsv V σ).set i (V.2.1 i, celS V σ' i x) = wsv V σ' := by
  apply List.ext_getElem?
  intro j
  by_cases hj : j = i
  · subst hj
    rw [List.getElem?_set_self (by simp [wsv, h.1]), wsv_at h]
  · rw [List.getElem?_set_ne (Ne.symm hj)]
    unfold wsv
    rw [List.getElem?_map, List.getElem?_map]
    cases hr : (List.range 87)[j]? with
    | none => rfl
    | some z =>
      have hz : z = j := by
        have := List.getElem?_eq_some_iff.mp hr
        obtain ⟨q1, q2⟩ := this
        simpa using q2.symm
      subst hz
      simp only [Option.map_some, cel]
      rw [celS_congr (h1 z hj) (h2 z hj)]
theorem pI_1 {σ : Sg} {i k : Nat} {v : Int32} : ∀ j, j ≠ i → (pI σ i k v).1 j = σ.1 j := fun j hj => by funext b; simp [pI, hj]
theorem pI_2 {σ : Sg} {i k : Nat} {v : Int32} : ∀ j, j ≠ i → (pI σ i k v).2 j = σ.2 j := fun _ _ => rfl
theorem pL_1 {σ : Sg} {i k : Nat} {v : Int64} : ∀ j, j ≠ i → (pL σ i k v).1 j = σ.1 j := fun _ _ => rfl
theorem pL_2 {σ : Sg} {i k : Nat} {v : Int64} : ∀ j, j ≠ i → (pL σ i k v).2 j = σ.2 j := fun j hj => by funext b; simp [pL, hj]
theorem pI_self {σ : Sg} {i k : Nat} {v : Int32} : (pI σ i k v).1 i = upd (σ.1 i) k v := by funext b; simp [pI, upd]
theorem pL_self {σ : Sg} {i k : Nat} {v : Int64} : (pL σ i k v).2 i = vp_updL (σ.2 i) k v := by funext b; simp [pL, vp_updL]
theorem pI_at (σ : Sg) (i k j : Nat) (v : Int32) : (pI σ i k v).1 i j = if j = k then v else σ.1 i j := by simp [pI]
theorem fld_gt {V : Vx} {σ : Sg} {i b : Nat} {v : Int32} : ∀ (sp : List (Option Nat)) (c : Nat), b < c → fld V (pI σ i b v) i c sp = fld V σ i c sp
  | [], c, _ => rfl
  | none :: r, c, h => by rw [fld, fld, fld_gt r (c + 1) (by omega), pI_at, if_neg (by omega)]
  | some j :: r, c, h => by rw [fld, fld, fld_gt r (c + 1) (by omega)]
theorem fld_put {V : Vx} {σ : Sg} {i k : Nat} {v : Int32} : ∀ (sp : List (Option Nat)) (b j : Nat), sp[j]? = some none → b + j = k → fld V (pI σ i k v) i b sp = (fld V σ i b sp).set j (.int v)
  | [], b, j, h, _ => by simp at h
  | none :: r, b, 0, _, e => by
    have e : b = k := by omega
    subst e
    rw [fld, fld, fld_gt r (b + 1) (by omega), pI_at, if_pos rfl]
    rfl
  | some q :: r, b, 0, h, _ => by simp at h
  | none :: r, b, j + 1, h, e => by
    have := fld_put (V := V) (σ := σ) (i := i) (k := k) (v := v) r (b + 1) j (by simpa using h) (by omega)
    rw [fld, fld, this, pI_at, if_neg (by omega)]
    rfl
  | some q :: r, b, j + 1, h, e => by
    have := fld_put (V := V) (σ := σ) (i := i) (k := k) (v := v) r (b + 1) j (by simpa using h) (by omega)
    rw [fld, fld, this]
    rfl
/-! words of the tables that hold at every call's start -/
def okW : Cond → Bool
  | .fieldLinkNest .. => true
  | .methodLinkNest .. => true
  | w => goodWord w
def GW (U : State) : Prop := ∀ w ∈ lw_tbl, okW w = true → ∀ a : Array Value, w.before a U = true
theorem okW_cases {w : Cond} (h : okW w = true) : (∃ a i b n d h, w = .fieldLinkNest a i b n d h) ∨ (∃ a i x h, w = .methodLinkNest a i x h) ∨ goodWord w = true := by
  cases w <;> first | exact Or.inl ⟨_, _, _, _, _, _, rfl⟩ | exact Or.inr (Or.inl ⟨_, _, _, _, rfl⟩) | exact Or.inr (Or.inr h)
theorem ok_word_at {args a' : Array Value} {s U : State} (hW : s.WarmedH U.vm) {w : Cond} (ho : okW w = true) (h : w.before args s = true) : w.before a' U = true := by
  rcases okW_cases ho with ⟨a, i, b, n, d, q, rfl⟩ | ⟨a, i, x, q, rfl⟩ | hg
  · exact (va_Nw.warmF hW (va_Nw.of rfl h)).use rfl
  · exact (va_Nw.warmM hW (va_Nw.of rfl h)).use rfl
  · exact word_at hW (good_of_word hg) h
theorem GW.warm {s U : State} (h : GW s) (hW : s.WarmedH U.vm) : GW U := fun w hw ho a => ok_word_at hW ho (h w hw ho a)
theorem GW.of {s : State} {args : Array Value} (h : ∀ w ∈ lw_tbl, w.before args s = true) : GW s := fun w hw ho a => ok_word_at (State.WarmedH.refl s) ho (h w hw)
abbrev tys (V : Vx) : List (ClassId × FieldType) := [(V.2.2.2.1 0, .int), (V.2.2.2.1 1, .long), (V.2.2.2.1 2, .object "GorgeRopes$Rope"), (V.2.2.2.1 3, .object "GorgeRopes$Trip"), (V.2.2.2.1 4, .object "GorgeRopes$Sheet")]
def tbL (j : Nat) : Int32 := if j = 0 then 1 else if j = 1 then 1 else 0
def tbM (j : Nat) : Int32 := if j = 0 then 9 else if j = 1 then 99 else 999
/-- what stands at every call's start, whatever the numbers are -/
def Ws (V : Vx) (U : State) : Prop := GW U ∧ va_K V.1 cls (tys V) U ∧ (∀ σ, va_D (Ab V) (wsv V σ)) ∧
  va_Z "GorgeRopes" "LEAST_SETTING" "[I" (.ref V.2.2.2.2.1) (Ab V) U U.heap ∧ va_T .int V.2.2.2.2.1 3 (fun j => .int (tbL j)) (Ab V) U U.heap ∧
  va_Z "GorgeRopes" "MOST_SETTING" "[I" (.ref V.2.2.2.2.2) (Ab V) U U.heap ∧ va_T .int V.2.2.2.2.2 3 (fun j => .int (tbM j)) (Ab V) U U.heap
theorem Ws.moved {V : Vx} {s U : State} {H : Heap} (h : Ws V s) (hU : U.heap = H) (hW : s.WarmedH U.vm) (hq : ∀ q : Nat, q < s.heap.size → ¬ Ab V q → H[q]? = s.heap[q]?) : Ws V U := by
  obtain ⟨h1, h2, h3, h4, h5, h6, h7⟩ := h
  subst hU
  exact ⟨h1.warm hW, va_K.moved hW.alike h2, h3, (h4.moved hW.alike).kept hq, (h5.moved hW.alike).kept hq, (h6.moved hW.alike).kept hq, (h7.moved hW.alike).kept hq⟩
theorem Ws.same {V : Vx} {s U : State} (h : Ws V s) (hH : U.heap = s.heap) (hv : U.vm = s.vm) : Ws V U := h.moved hH (by rw [hv]; exact State.WarmedH.refl s) (fun _ _ _ => rfl)

theorem lay_Fe : ∀ w ∈ u_ws R_Fe F_Fe 4, w ∈ lw_tbl ∧ okW w = true := by decide +kernel
theorem lay_Mi : ∀ w ∈ u_ws R_Mi F_Mi 10, w ∈ lw_tbl ∧ okW w = true := by decide +kernel
theorem lay_Ro : ∀ w ∈ u_ws R_Ro F_Ro 9, w ∈ lw_tbl ∧ okW w = true := by decide +kernel
theorem lay_Rs : ∀ w ∈ u_ws R_Rs F_Rs 6, w ∈ lw_tbl ∧ okW w = true := by decide +kernel
theorem lay_Sh : ∀ w ∈ u_ws R_Sh F_Sh 3, w ∈ lw_tbl ∧ okW w = true := by decide +kernel
theorem lay_Ss : ∀ w ∈ u_ws R_Ss F_Ss 3, w ∈ lw_tbl ∧ okW w = true := by decide +kernel
theorem lay_Te : ∀ w ∈ u_ws R_Te F_Te 3, w ∈ lw_tbl ∧ okW w = true := by decide +kernel
theorem lay_Tt : ∀ w ∈ u_ws R_Tt F_Tt 2, w ∈ lw_tbl ∧ okW w = true := by decide +kernel
theorem lay_Tr : ∀ w ∈ u_ws R_Tr F_Tr 5, w ∈ lw_tbl ∧ okW w = true := by decide +kernel
theorem lay_Ts : ∀ w ∈ u_ws R_Ts F_Ts 3, w ∈ lw_tbl ∧ okW w = true := by decide +kernel
theorem lay_GR : ∀ w ∈ u_ws R_GR F_GR 9, w ∈ lw_tbl ∧ okW w = true := by decide +kernel
theorem lay_Md : ∀ w ∈ u_ws R_Md F_Md 33, w ∈ lw_tbl ∧ okW w = true := by decide +kernel
theorem lay_all : ∀ (ci : Nat) (q : vw_C), cls[ci]? = some q → (∀ w ∈ u_ws q.1 q.2.1 q.2.2, w ∈ lw_tbl ∧ okW w = true) ∧ ∃ ty0 : Nat → FieldType, (∀ k, k < q.2.2 → parseFieldDescriptor (q.2.1 k).2.2.1 = some (ty0 k)) ∧ ∀ a, a < q.2.2 → ∀ b, b < q.2.2 → a ≠ b → (q.2.1 a).2.1 ≠ (q.2.1 b).2.1
  | 0, _, h => by cases h; exact ⟨lay_Fe, t_Fe, t_Fe_ok, n_Fe⟩
  | 1, _, h => by cases h; exact ⟨lay_Mi, t_Mi, t_Mi_ok, n_Mi⟩
  | 2, _, h => by cases h; exact ⟨lay_Ro, t_Ro, t_Ro_ok, n_Ro⟩
  | 3, _, h => by cases h; exact ⟨lay_Rs, t_Rs, t_Rs_ok, n_Rs⟩
  | 4, _, h => by cases h; exact ⟨lay_Sh, t_Sh, t_Sh_ok, n_Sh⟩
  | 5, _, h => by cases h; exact ⟨lay_Ss, t_Ss, t_Ss_ok, n_Ss⟩
  | 6, _, h => by cases h; exact ⟨lay_Te, t_Te, t_Te_ok, n_Te⟩
  | 7, _, h => by cases h; exact ⟨lay_Tt, t_Tt, t_Tt_ok, n_Tt⟩
  | 8, _, h => by cases h; exact ⟨lay_Tr, t_Tr, t_Tr_ok, n_Tr⟩
  | 9, _, h => by cases h; exact ⟨lay_Ts, t_Ts, t_Ts_ok, n_Ts⟩
  | 10, _, h => by cases h; exact ⟨lay_GR, t_GR, t_GR_ok, n_GR⟩
  | 11, _, h => by cases h; exact ⟨lay_Md, t_Md, t_Md_ok, n_Md⟩
  | k + 12, _, h => by simp at h

/-! the judgement -/
abbrev Xx : Type := Program × Launch × Env × State × MethodId × Array Value × List Frame × Method × Code × Nat × Nat
abbrev xp (X : Xx) : Program := X.1
abbrev xl (X : Xx) : Launch := X.2.1
abbrev xe (X : Xx) : Env := X.2.2.1
abbrev xs (X : Xx) : State := X.2.2.2.1
abbrev xm (X : Xx) : MethodId := X.2.2.2.2.1
abbrev xa (X : Xx) : Array Value := X.2.2.2.2.2.1
abbrev xb (X : Xx) : List Frame := X.2.2.2.2.2.2.1
abbrev xh (X : Xx) : Method := X.2.2.2.2.2.2.2.1
abbrev xc (X : Xx) : Code := X.2.2.2.2.2.2.2.2.1
abbrev xn (X : Xx) : Nat := X.2.2.2.2.2.2.2.2.2.1
abbrev xk (X : Xx) : Nat := X.2.2.2.2.2.2.2.2.2.2
def Cx (V : Vx) (X : Xx) (R : Room) (cc : ByteArray) (own : String) (nL : Nat) (ret : Option FieldType) : Prop :=
  (xp X).tables.exec = Jvm.exec ∧ (xc X).code = cc ∧ (xc X).maxLocals = nL ∧ (xs X).vm.findClass own = some (xm X).cls ∧ Ws V (xs X) ∧ (xn X ≤ R.cells ∧ xk X ≤ R.slots) ∧ (xh X).locks = false ∧ (xh X).sig.returnType = ret
def Wx (X : Xx) (R : Room) (Q : State → Prop) (H : Heap) (locs : List Loc) (g : JFrame) : Prop := W (xp X) (xl X) (xe X) R (xs X) (xm X) (xa X) (xb X) (xh X) (xc X) H locs (xn X) (xk X) Q g
def J (V : Vx) (X : Xx) (R : Room) (cc : ByteArray) (own : String) (nL : Nat) (ret : Option FieldType) (Q : State → Prop) (σ : Sg) (pc : Nat) (lv : List (Nat × Value)) (st : List Value) : Prop :=
  Cx V X R cc own nL ret → ∀ (H : Heap) (locs : List Loc) (ls : Array Slot), va_P V.1 cls (wsv V σ) H → va_S (Ab V) (xs X).heap H locs → lv_has ls nL lv → Wx X R Q H locs (F0 (xm X) pc ls st)
section JR
variable {V : Vx} {X : Xx} {R : Room} {cc : ByteArray} {own : String} {nL : Nat} {ret : Option FieldType} {Q : State → Prop} {σ σ' : Sg} {pc pc' : Nat} {lv lv' : List (Nat × Value)} {st rest : List Value}

theorem J_iload_n {k : Fin 4} {x : Int32} (hd : decode cc pc = .ok (.iload_n k, 1)) (hn : pc + 1 = pc') (j : Nat) (hk : lv[j]? = some ((k : Nat), .int x)) (kk : J V X R cc own nL ret Q σ pc' lv (.int x :: rest)) : J V X R cc own nL ret Q σ pc lv (rest) := by
  subst hn; exact fun C H locs ls hP hS hl => lv_iload_n C.1 C.2.1 hd rfl (lv_at hl j hk) (kk C H locs ls hP hS hl)
theorem J_iload {k : Nat} {x : Int32} (hd : decode cc pc = .ok (.iload k, 2)) (hn : pc + 2 = pc') (j : Nat) (hk : lv[j]? = some (k, .int x)) (kk : J V X R cc own nL ret Q σ pc' lv (.int x :: rest)) : J V X R cc own nL ret Q σ pc lv (rest) := by
  subst hn; exact fun C H locs ls hP hS hl => lv_iload C.1 C.2.1 hd (lv_at hl j hk) (kk C H locs ls hP hS hl)
theorem J_lload_n {k : Fin 4} {x : Int64} (hd : decode cc pc = .ok (.lload_n k, 1)) (hn : pc + 1 = pc') (j : Nat) (hk : lv[j]? = some ((k : Nat), .long x)) (kk : J V X R cc own nL ret Q σ pc' lv (.long x :: rest)) : J V X R cc own nL ret Q σ pc lv (rest) := by
  subst hn; exact fun C H locs ls hP hS hl => lv_lload_n C.1 C.2.1 hd rfl (lv_at hl j hk) (kk C H locs ls hP hS hl)
theorem J_lload {k : Nat} {x : Int64} (hd : decode cc pc = .ok (.lload k, 2)) (hn : pc + 2 = pc') (j : Nat) (hk : lv[j]? = some (k, .long x)) (kk : J V X R cc own nL ret Q σ pc' lv (.long x :: rest)) : J V X R cc own nL ret Q σ pc lv (rest) := by
  subst hn; exact fun C H locs ls hP hS hl => lv_lload C.1 C.2.1 hd (lv_at hl j hk) (kk C H locs ls hP hS hl)
theorem J_aload_n {k : Fin 4} {x : Nat} (hd : decode cc pc = .ok (.aload_n k, 1)) (hn : pc + 1 = pc') (j : Nat) (hk : lv[j]? = some ((k : Nat), .ref x)) (kk : J V X R cc own nL ret Q σ pc' lv (.ref x :: rest)) : J V X R cc own nL ret Q σ pc lv (rest) := by
  subst hn; exact fun C H locs ls hP hS hl => lv_aload_n C.1 C.2.1 hd rfl (lv_at hl j hk) (kk C H locs ls hP hS hl)
theorem J_aload {k : Nat} {x : Nat} (hd : decode cc pc = .ok (.aload k, 2)) (hn : pc + 2 = pc') (j : Nat) (hk : lv[j]? = some (k, .ref x)) (kk : J V X R cc own nL ret Q σ pc' lv (.ref x :: rest)) : J V X R cc own nL ret Q σ pc lv (rest) := by
  subst hn; exact fun C H locs ls hP hS hl => lv_aload C.1 C.2.1 hd (lv_at hl j hk) (kk C H locs ls hP hS hl)
theorem J_istore_n {k : Fin 4} {i : Nat} {x : Int32} (hd : decode cc pc = .ok (.istore_n k, 1)) (hn : pc + 1 = pc') (hi : (k : Nat) = i) (hb : i < nL) (he : (i, Value.int x) :: lv.filter (fun q => !(q.1 == i) && !(q.1 + 1 == i && q.2.category == 2)) = lv') (kk : J V X R cc own nL ret Q σ pc' lv' rest) : J V X R cc own nL ret Q σ pc lv (.int x :: rest) := by
  subst hn; exact fun C H locs ls hP hS hl => lv_istore_n C.1 C.2.1 hd hi hl hb he (fun ls2 hl2 => kk C H locs ls2 hP hS hl2)
theorem J_istore {i : Nat} {x : Int32} (hd : decode cc pc = .ok (.istore i, 2)) (hn : pc + 2 = pc') (hb : i < nL) (he : (i, Value.int x) :: lv.filter (fun q => !(q.1 == i) && !(q.1 + 1 == i && q.2.category == 2)) = lv') (kk : J V X R cc own nL ret Q σ pc' lv' rest) : J V X R cc own nL ret Q σ pc lv (.int x :: rest) := by
  subst hn; exact fun C H locs ls hP hS hl => lv_istore C.1 C.2.1 hd hl hb he (fun ls2 hl2 => kk C H locs ls2 hP hS hl2)
theorem J_lstore_n {k : Fin 4} {i : Nat} {x : Int64} (hd : decode cc pc = .ok (.lstore_n k, 1)) (hn : pc + 1 = pc') (hi : (k : Nat) = i) (hb : i + 1 < nL) (he : (i, Value.long x) :: lv.filter (fun q => !(q.1 == i) && (!(q.1 == i + 1) && !(q.1 + 1 == i && q.2.category == 2))) = lv') (kk : J V X R cc own nL ret Q σ pc' lv' rest) : J V X R cc own nL ret Q σ pc lv (.long x :: rest) := by
  subst hn; exact fun C H locs ls hP hS hl => lv_lstore_n C.1 C.2.1 hd hi hl hb he (fun ls2 hl2 => kk C H locs ls2 hP hS hl2)
theorem J_lstore {i : Nat} {x : Int64} (hd : decode cc pc = .ok (.lstore i, 2)) (hn : pc + 2 = pc') (hb : i + 1 < nL) (he : (i, Value.long x) :: lv.filter (fun q => !(q.1 == i) && (!(q.1 == i + 1) && !(q.1 + 1 == i && q.2.category == 2))) = lv') (kk : J V X R cc own nL ret Q σ pc' lv' rest) : J V X R cc own nL ret Q σ pc lv (.long x :: rest) := by
  subst hn; exact fun C H locs ls hP hS hl => lv_lstore C.1 C.2.1 hd hl hb he (fun ls2 hl2 => kk C H locs ls2 hP hS hl2)
theorem J_astore_n {k : Fin 4} {i : Nat} {x : Nat} (hd : decode cc pc = .ok (.astore_n k, 1)) (hn : pc + 1 = pc') (hi : (k : Nat) = i) (hb : i < nL) (he : (i, Value.ref x) :: lv.filter (fun q => !(q.1 == i) && !(q.1 + 1 == i && q.2.category == 2)) = lv') (kk : J V X R cc own nL ret Q σ pc' lv' rest) : J V X R cc own nL ret Q σ pc lv (.ref x :: rest) := by
  subst hn; exact fun C H locs ls hP hS hl => lv_astore_n C.1 C.2.1 hd hi hl hb he (fun ls2 hl2 => kk C H locs ls2 hP hS hl2)
theorem J_astore {i : Nat} {x : Nat} (hd : decode cc pc = .ok (.astore i, 2)) (hn : pc + 2 = pc') (hb : i < nL) (he : (i, Value.ref x) :: lv.filter (fun q => !(q.1 == i) && !(q.1 + 1 == i && q.2.category == 2)) = lv') (kk : J V X R cc own nL ret Q σ pc' lv' rest) : J V X R cc own nL ret Q σ pc lv (.ref x :: rest) := by
  subst hn; exact fun C H locs ls hP hS hl => lv_astore C.1 C.2.1 hd hl hb he (fun ls2 hl2 => kk C H locs ls2 hP hS hl2)
theorem J_iinc {i j : Nat} {n : Int} {x v : Int32} (hd : decode cc pc = .ok (.iinc i n, 3)) (hn : pc + 3 = pc') (hk : lv[j]? = some (i, .int x)) (hv : Int32.ofInt n = v) (hb : i < nL) (he : (i, Value.int (x + v)) :: lv.filter (fun q => !(q.1 == i) && !(q.1 + 1 == i && q.2.category == 2)) = lv') (kk : J V X R cc own nL ret Q σ pc' lv' rest) : J V X R cc own nL ret Q σ pc lv rest := by
  subst hn; exact fun C H locs ls hP hS hl => lv_iinc (k := j) (v := x + v) C.1 C.2.1 hd hl hk (by rw [hv]) hb he (fun ls2 hl2 => kk C H locs ls2 hP hS hl2)
theorem J_iconst {n : Int} {v : Int32} (hd : decode cc pc = .ok (.iconst n, 1)) (hn : pc + 1 = pc') (hv : Int32.ofInt n = v) (kk : J V X R cc own nL ret Q σ pc' lv (.int v :: rest)) : J V X R cc own nL ret Q σ pc lv (rest) := by
  subst hn; exact fun C H locs ls hP hS hl => lv_iconst C.1 C.2.1 hd hv (kk C H locs ls hP hS hl)
theorem J_bipush {n : Int} {v : Int32} (hd : decode cc pc = .ok (.bipush n, 2)) (hn : pc + 2 = pc') (hv : (Int8.ofInt n).toInt32 = v) (kk : J V X R cc own nL ret Q σ pc' lv (.int v :: rest)) : J V X R cc own nL ret Q σ pc lv (rest) := by
  subst hn; exact fun C H locs ls hP hS hl => lv_bipush C.1 C.2.1 hd hv (kk C H locs ls hP hS hl)
theorem J_sipush {n : Int} {v : Int32} (hd : decode cc pc = .ok (.sipush n, 3)) (hn : pc + 3 = pc') (hv : (Int16.ofInt n).toInt32 = v) (kk : J V X R cc own nL ret Q σ pc' lv (.int v :: rest)) : J V X R cc own nL ret Q σ pc lv (rest) := by
  subst hn; exact fun C H locs ls hP hS hl => lv_sipush C.1 C.2.1 hd hv (kk C H locs ls hP hS hl)
theorem J_lconst {n : Fin 2} {v : Int64} (hd : decode cc pc = .ok (.lconst n, 1)) (hn : pc + 1 = pc') (hv : Int64.ofNat (n : Nat) = v) (kk : J V X R cc own nL ret Q σ pc' lv (.long v :: rest)) : J V X R cc own nL ret Q σ pc lv (rest) := by
  subst hn; exact fun C H locs ls hP hS hl => lv_lconst C.1 C.2.1 hd hv (kk C H locs ls hP hS hl)
theorem J_ldc {idx : Nat} {v : Int32} (hd : decode cc pc = .ok (.ldc idx, 2)) (hn : pc + 2 = pc') (hw : Cond.constant own idx v ∈ lw_tbl) (kk : J V X R cc own nL ret Q σ pc' lv (.int v :: rest)) : J V X R cc own nL ret Q σ pc lv (rest) := by
  subst hn; exact fun C H locs ls hP hS hl => lv_ldc C.1 C.2.1 C.2.2.2.1 (C.2.2.2.2.1.1 _ hw rfl _) hd (kk C H locs ls hP hS hl)
theorem J_ldcw {idx : Nat} {v : Int32} (hd : decode cc pc = .ok (.ldc_w idx, 3)) (hn : pc + 3 = pc') (hw : Cond.constant own idx v ∈ lw_tbl) (kk : J V X R cc own nL ret Q σ pc' lv (.int v :: rest)) : J V X R cc own nL ret Q σ pc lv (rest) := by
  subst hn; exact fun C H locs ls hP hS hl => lv_ldcw C.1 C.2.1 C.2.2.2.1 (C.2.2.2.2.1.1 _ hw rfl _) hd (kk C H locs ls hP hS hl)
theorem J_ldc2 {idx : Nat} {v : Int64} (hd : decode cc pc = .ok (.ldc2_w idx, 3)) (hn : pc + 3 = pc') (hw : Cond.constantLong own idx v ∈ lw_tbl) (kk : J V X R cc own nL ret Q σ pc' lv (.long v :: rest)) : J V X R cc own nL ret Q σ pc lv (rest) := by
  subst hn; exact fun C H locs ls hP hS hl => lv_ldc2 C.1 C.2.1 C.2.2.2.1 (C.2.2.2.2.1.1 _ hw rfl _) hd (kk C H locs ls hP hS hl)
theorem J_iadd {x y : Int32} (hd : decode cc pc = .ok (.iadd, 1)) (hn : pc + 1 = pc')  (kk : J V X R cc own nL ret Q σ pc' lv (.int (x + y) :: rest)) : J V X R cc own nL ret Q σ pc lv (.int y :: .int x :: rest) := by
  subst hn; exact fun C H locs ls hP hS hl => lv_iadd C.1 C.2.1 hd (kk C H locs ls hP hS hl)
theorem J_isub {x y : Int32} (hd : decode cc pc = .ok (.isub, 1)) (hn : pc + 1 = pc')  (kk : J V X R cc own nL ret Q σ pc' lv (.int (x - y) :: rest)) : J V X R cc own nL ret Q σ pc lv (.int y :: .int x :: rest) := by
  subst hn; exact fun C H locs ls hP hS hl => lv_isub C.1 C.2.1 hd (kk C H locs ls hP hS hl)
theorem J_imul {x y : Int32} (hd : decode cc pc = .ok (.imul, 1)) (hn : pc + 1 = pc')  (kk : J V X R cc own nL ret Q σ pc' lv (.int (x * y) :: rest)) : J V X R cc own nL ret Q σ pc lv (.int y :: .int x :: rest) := by
  subst hn; exact fun C H locs ls hP hS hl => lv_imul C.1 C.2.1 hd (kk C H locs ls hP hS hl)
theorem J_iand {x y : Int32} (hd : decode cc pc = .ok (.iand, 1)) (hn : pc + 1 = pc')  (kk : J V X R cc own nL ret Q σ pc' lv (.int (x &&& y) :: rest)) : J V X R cc own nL ret Q σ pc lv (.int y :: .int x :: rest) := by
  subst hn; exact fun C H locs ls hP hS hl => lv_iand C.1 C.2.1 hd (kk C H locs ls hP hS hl)
theorem J_ior {x y : Int32} (hd : decode cc pc = .ok (.ior, 1)) (hn : pc + 1 = pc')  (kk : J V X R cc own nL ret Q σ pc' lv (.int (x ||| y) :: rest)) : J V X R cc own nL ret Q σ pc lv (.int y :: .int x :: rest) := by
  subst hn; exact fun C H locs ls hP hS hl => lv_ior C.1 C.2.1 hd (kk C H locs ls hP hS hl)
theorem J_ixor {x y : Int32} (hd : decode cc pc = .ok (.ixor, 1)) (hn : pc + 1 = pc')  (kk : J V X R cc own nL ret Q σ pc' lv (.int (x ^^^ y) :: rest)) : J V X R cc own nL ret Q σ pc lv (.int y :: .int x :: rest) := by
  subst hn; exact fun C H locs ls hP hS hl => lv_ixor C.1 C.2.1 hd (kk C H locs ls hP hS hl)
theorem J_ishl {x y : Int32} (hd : decode cc pc = .ok (.ishl, 1)) (hn : pc + 1 = pc')  (kk : J V X R cc own nL ret Q σ pc' lv (.int (x <<< (y &&& 31)) :: rest)) : J V X R cc own nL ret Q σ pc lv (.int y :: .int x :: rest) := by
  subst hn; exact fun C H locs ls hP hS hl => lv_ishl C.1 C.2.1 hd (kk C H locs ls hP hS hl)
theorem J_ishr {x y : Int32} (hd : decode cc pc = .ok (.ishr, 1)) (hn : pc + 1 = pc')  (kk : J V X R cc own nL ret Q σ pc' lv (.int (x >>> (y &&& 31)) :: rest)) : J V X R cc own nL ret Q σ pc lv (.int y :: .int x :: rest) := by
  subst hn; exact fun C H locs ls hP hS hl => lv_ishr C.1 C.2.1 hd (kk C H locs ls hP hS hl)
theorem J_idiv {x y : Int32} (hd : decode cc pc = .ok (.idiv, 1)) (hn : pc + 1 = pc') (hne : ¬ y = 0) (kk : J V X R cc own nL ret Q σ pc' lv (.int (x / y) :: rest)) : J V X R cc own nL ret Q σ pc lv (.int y :: .int x :: rest) := by
  subst hn; exact fun C H locs ls hP hS hl => lv_idiv C.1 C.2.1 hd hne (kk C H locs ls hP hS hl)
theorem J_irem {x y : Int32} (hd : decode cc pc = .ok (.irem, 1)) (hn : pc + 1 = pc') (hne : ¬ y = 0) (kk : J V X R cc own nL ret Q σ pc' lv (.int (x - x / y * y) :: rest)) : J V X R cc own nL ret Q σ pc lv (.int y :: .int x :: rest) := by
  subst hn; exact fun C H locs ls hP hS hl => lv_irem C.1 C.2.1 hd hne (kk C H locs ls hP hS hl)
def us (x y : Int32) : Int32 := (x.toUInt32 >>> (y.toUInt32 &&& Int32.toUInt32 31)).toInt32
theorem J_iushr {x y : Int32} (hd : decode cc pc = .ok (.iushr, 1)) (hn : pc + 1 = pc')  (kk : J V X R cc own nL ret Q σ pc' lv (.int (us x y) :: rest)) : J V X R cc own nL ret Q σ pc lv (.int y :: .int x :: rest) := by
  subst hn; exact fun C H locs ls hP hS hl => lv_iushr C.1 C.2.1 hd rfl (kk C H locs ls hP hS hl)
theorem J_ineg {x : Int32} (hd : decode cc pc = .ok (.ineg, 1)) (hn : pc + 1 = pc')  (kk : J V X R cc own nL ret Q σ pc' lv (.int (-x) :: rest)) : J V X R cc own nL ret Q σ pc lv (.int x :: rest) := by
  subst hn; exact fun C H locs ls hP hS hl => lv_ineg C.1 C.2.1 hd (kk C H locs ls hP hS hl)
theorem J_lneg {x : Int64} (hd : decode cc pc = .ok (.lneg, 1)) (hn : pc + 1 = pc')  (kk : J V X R cc own nL ret Q σ pc' lv (.long (-x) :: rest)) : J V X R cc own nL ret Q σ pc lv (.long x :: rest) := by
  subst hn; exact fun C H locs ls hP hS hl => lv_lneg C.1 C.2.1 hd (kk C H locs ls hP hS hl)
theorem J_ladd {x y : Int64} (hd : decode cc pc = .ok (.ladd, 1)) (hn : pc + 1 = pc')  (kk : J V X R cc own nL ret Q σ pc' lv (.long (x + y) :: rest)) : J V X R cc own nL ret Q σ pc lv (.long y :: .long x :: rest) := by
  subst hn; exact fun C H locs ls hP hS hl => lv_ladd C.1 C.2.1 hd (kk C H locs ls hP hS hl)
theorem J_lsub {x y : Int64} (hd : decode cc pc = .ok (.lsub, 1)) (hn : pc + 1 = pc')  (kk : J V X R cc own nL ret Q σ pc' lv (.long (x - y) :: rest)) : J V X R cc own nL ret Q σ pc lv (.long y :: .long x :: rest) := by
  subst hn; exact fun C H locs ls hP hS hl => lv_lsub C.1 C.2.1 hd (kk C H locs ls hP hS hl)
theorem J_lmul {x y : Int64} (hd : decode cc pc = .ok (.lmul, 1)) (hn : pc + 1 = pc')  (kk : J V X R cc own nL ret Q σ pc' lv (.long (x * y) :: rest)) : J V X R cc own nL ret Q σ pc lv (.long y :: .long x :: rest) := by
  subst hn; exact fun C H locs ls hP hS hl => lv_lmul C.1 C.2.1 hd (kk C H locs ls hP hS hl)
theorem J_ldiv {x y : Int64} (hd : decode cc pc = .ok (.ldiv, 1)) (hn : pc + 1 = pc') (hne : ¬ y = 0) (kk : J V X R cc own nL ret Q σ pc' lv (.long (x / y) :: rest)) : J V X R cc own nL ret Q σ pc lv (.long y :: .long x :: rest) := by
  subst hn; exact fun C H locs ls hP hS hl => lv_ldiv C.1 C.2.1 hd hne (kk C H locs ls hP hS hl)
theorem J_lrem {x y : Int64} (hd : decode cc pc = .ok (.lrem, 1)) (hn : pc + 1 = pc') (hne : ¬ y = 0) (kk : J V X R cc own nL ret Q σ pc' lv (.long (x - x / y * y) :: rest)) : J V X R cc own nL ret Q σ pc lv (.long y :: .long x :: rest) := by
  subst hn; exact fun C H locs ls hP hS hl => lv_lrem C.1 C.2.1 hd hne (kk C H locs ls hP hS hl)
theorem J_lcmp {x y : Int64} (hd : decode cc pc = .ok (.lcmp, 1)) (hn : pc + 1 = pc')  (kk : J V X R cc own nL ret Q σ pc' lv (.int (lg_cmp x y) :: rest)) : J V X R cc own nL ret Q σ pc lv (.long y :: .long x :: rest) := by
  subst hn; exact fun C H locs ls hP hS hl => W.lcmp C.1 C.2.1 hd (kk C H locs ls hP hS hl)
theorem J_i2l {x : Int32} (hd : decode cc pc = .ok (.i2l, 1)) (hn : pc + 1 = pc')  (kk : J V X R cc own nL ret Q σ pc' lv (.long x.toInt64 :: rest)) : J V X R cc own nL ret Q σ pc lv (.int x :: rest) := by
  subst hn; exact fun C H locs ls hP hS hl => lv_i2l C.1 C.2.1 hd rfl (kk C H locs ls hP hS hl)
theorem J_i2b {x : Int32} (hd : decode cc pc = .ok (.i2b, 1)) (hn : pc + 1 = pc')  (kk : J V X R cc own nL ret Q σ pc' lv (.int x.toInt8.toInt32 :: rest)) : J V X R cc own nL ret Q σ pc lv (.int x :: rest) := by
  subst hn; exact fun C H locs ls hP hS hl => lv_i2b C.1 C.2.1 hd rfl (kk C H locs ls hP hS hl)
theorem J_i2s {x : Int32} (hd : decode cc pc = .ok (.i2s, 1)) (hn : pc + 1 = pc')  (kk : J V X R cc own nL ret Q σ pc' lv (.int x.toInt16.toInt32 :: rest)) : J V X R cc own nL ret Q σ pc lv (.int x :: rest) := by
  subst hn; exact fun C H locs ls hP hS hl => lv_i2s C.1 C.2.1 hd rfl (kk C H locs ls hP hS hl)
theorem J_dup {va : Value} (hd : decode cc pc = .ok (.dup, 1)) (hn : pc + 1 = pc') (hc : va.category = 1) (kk : J V X R cc own nL ret Q σ pc' lv (va :: va :: rest)) : J V X R cc own nL ret Q σ pc lv (va :: rest) := by
  subst hn; exact fun C H locs ls hP hS hl => lv_dup C.1 C.2.1 hd hc (kk C H locs ls hP hS hl)
theorem J_pop {va : Value} (hd : decode cc pc = .ok (.pop, 1)) (hn : pc + 1 = pc') (hc : va.category = 1) (kk : J V X R cc own nL ret Q σ pc' lv (rest)) : J V X R cc own nL ret Q σ pc lv (va :: rest) := by
  subst hn; exact fun C H locs ls hP hS hl => lv_pop C.1 C.2.1 hd hc (kk C H locs ls hP hS hl)
theorem J_dup2 {va vb : Value} (hd : decode cc pc = .ok (.dup2, 1)) (hn : pc + 1 = pc') (hc : va.category = 1) (hc2 : vb.category = 1) (kk : J V X R cc own nL ret Q σ pc' lv (va :: vb :: va :: vb :: rest)) : J V X R cc own nL ret Q σ pc lv (va :: vb :: rest) := by
  subst hn; exact fun C H locs ls hP hS hl => lv_dup2_11 C.1 C.2.1 hd hc hc2 (kk C H locs ls hP hS hl)
theorem J_if_eq {x : Int32} {off : Int} {tgt : Nat} (hd : decode cc pc = .ok (.ifCond .eq off, 3)) (hn : pc + 3 = pc') (ht : (pc : Int) + off = (tgt : Int)) (kt : x = 0 → J V X R cc own nL ret Q σ tgt lv rest) (kf : ¬ (x = 0) → J V X R cc own nL ret Q σ pc' lv rest) : J V X R cc own nL ret Q σ pc lv (.int x :: rest) := by
  subst hn; exact fun C H locs ls hP hS hl => lv_if_eq C.1 C.2.1 hd ht (fun h => kt h C H locs ls hP hS hl) (fun h => kf h C H locs ls hP hS hl)
theorem J_icmp_eq {x y : Int32} {off : Int} {tgt : Nat} (hd : decode cc pc = .ok (.if_icmp .eq off, 3)) (hn : pc + 3 = pc') (ht : (pc : Int) + off = (tgt : Int)) (kt : x = y → J V X R cc own nL ret Q σ tgt lv rest) (kf : ¬ (x = y) → J V X R cc own nL ret Q σ pc' lv rest) : J V X R cc own nL ret Q σ pc lv (.int y :: .int x :: rest) := by
  subst hn; exact fun C H locs ls hP hS hl => lv_icmp_eq C.1 C.2.1 hd ht (fun h => kt h C H locs ls hP hS hl) (fun h => kf h C H locs ls hP hS hl)
theorem J_if_ne {x : Int32} {off : Int} {tgt : Nat} (hd : decode cc pc = .ok (.ifCond .ne off, 3)) (hn : pc + 3 = pc') (ht : (pc : Int) + off = (tgt : Int)) (kt : ¬ x = 0 → J V X R cc own nL ret Q σ tgt lv rest) (kf : x = 0 → J V X R cc own nL ret Q σ pc' lv rest) : J V X R cc own nL ret Q σ pc lv (.int x :: rest) := by
  subst hn; exact fun C H locs ls hP hS hl => lv_if_ne C.1 C.2.1 hd ht (fun h => kt h C H locs ls hP hS hl) (fun h => kf h C H locs ls hP hS hl)
theorem J_icmp_ne {x y : Int32} {off : Int} {tgt : Nat} (hd : decode cc pc = .ok (.if_icmp .ne off, 3)) (hn : pc + 3 = pc') (ht : (pc : Int) + off = (tgt : Int)) (kt : ¬ x = y → J V X R cc own nL ret Q σ tgt lv rest) (kf : x = y → J V X R cc own nL ret Q σ pc' lv rest) : J V X R cc own nL ret Q σ pc lv (.int y :: .int x :: rest) := by
  subst hn; exact fun C H locs ls hP hS hl => lv_icmp_ne C.1 C.2.1 hd ht (fun h => kt h C H locs ls hP hS hl) (fun h => kf h C H locs ls hP hS hl)
theorem J_if_lt {x : Int32} {off : Int} {tgt : Nat} (hd : decode cc pc = .ok (.ifCond .lt off, 3)) (hn : pc + 3 = pc') (ht : (pc : Int) + off = (tgt : Int)) (kt : x < 0 → J V X R cc own nL ret Q σ tgt lv rest) (kf : ¬ (x < 0) → J V X R cc own nL ret Q σ pc' lv rest) : J V X R cc own nL ret Q σ pc lv (.int x :: rest) := by
  subst hn; exact fun C H locs ls hP hS hl => lv_if_lt C.1 C.2.1 hd ht (fun h => kt h C H locs ls hP hS hl) (fun h => kf h C H locs ls hP hS hl)
theorem J_icmp_lt {x y : Int32} {off : Int} {tgt : Nat} (hd : decode cc pc = .ok (.if_icmp .lt off, 3)) (hn : pc + 3 = pc') (ht : (pc : Int) + off = (tgt : Int)) (kt : x < y → J V X R cc own nL ret Q σ tgt lv rest) (kf : ¬ (x < y) → J V X R cc own nL ret Q σ pc' lv rest) : J V X R cc own nL ret Q σ pc lv (.int y :: .int x :: rest) := by
  subst hn; exact fun C H locs ls hP hS hl => lv_icmp_lt C.1 C.2.1 hd ht (fun h => kt h C H locs ls hP hS hl) (fun h => kf h C H locs ls hP hS hl)
theorem J_if_ge {x : Int32} {off : Int} {tgt : Nat} (hd : decode cc pc = .ok (.ifCond .ge off, 3)) (hn : pc + 3 = pc') (ht : (pc : Int) + off = (tgt : Int)) (kt : 0 ≤ x → J V X R cc own nL ret Q σ tgt lv rest) (kf : ¬ (0 ≤ x) → J V X R cc own nL ret Q σ pc' lv rest) : J V X R cc own nL ret Q σ pc lv (.int x :: rest) := by
  subst hn; exact fun C H locs ls hP hS hl => lv_if_ge C.1 C.2.1 hd ht (fun h => kt h C H locs ls hP hS hl) (fun h => kf h C H locs ls hP hS hl)
theorem J_icmp_ge {x y : Int32} {off : Int} {tgt : Nat} (hd : decode cc pc = .ok (.if_icmp .ge off, 3)) (hn : pc + 3 = pc') (ht : (pc : Int) + off = (tgt : Int)) (kt : y ≤ x → J V X R cc own nL ret Q σ tgt lv rest) (kf : ¬ (y ≤ x) → J V X R cc own nL ret Q σ pc' lv rest) : J V X R cc own nL ret Q σ pc lv (.int y :: .int x :: rest) := by
  subst hn; exact fun C H locs ls hP hS hl => lv_icmp_ge C.1 C.2.1 hd ht (fun h => kt h C H locs ls hP hS hl) (fun h => kf h C H locs ls hP hS hl)
theorem J_if_gt {x : Int32} {off : Int} {tgt : Nat} (hd : decode cc pc = .ok (.ifCond .gt off, 3)) (hn : pc + 3 = pc') (ht : (pc : Int) + off = (tgt : Int)) (kt : 0 < x → J V X R cc own nL ret Q σ tgt lv rest) (kf : ¬ (0 < x) → J V X R cc own nL ret Q σ pc' lv rest) : J V X R cc own nL ret Q σ pc lv (.int x :: rest) := by
  subst hn; exact fun C H locs ls hP hS hl => lv_if_gt C.1 C.2.1 hd ht (fun h => kt h C H locs ls hP hS hl) (fun h => kf h C H locs ls hP hS hl)
theorem J_icmp_gt {x y : Int32} {off : Int} {tgt : Nat} (hd : decode cc pc = .ok (.if_icmp .gt off, 3)) (hn : pc + 3 = pc') (ht : (pc : Int) + off = (tgt : Int)) (kt : y < x → J V X R cc own nL ret Q σ tgt lv rest) (kf : ¬ (y < x) → J V X R cc own nL ret Q σ pc' lv rest) : J V X R cc own nL ret Q σ pc lv (.int y :: .int x :: rest) := by
  subst hn; exact fun C H locs ls hP hS hl => lv_icmp_gt C.1 C.2.1 hd ht (fun h => kt h C H locs ls hP hS hl) (fun h => kf h C H locs ls hP hS hl)
theorem J_if_le {x : Int32} {off : Int} {tgt : Nat} (hd : decode cc pc = .ok (.ifCond .le off, 3)) (hn : pc + 3 = pc') (ht : (pc : Int) + off = (tgt : Int)) (kt : x ≤ 0 → J V X R cc own nL ret Q σ tgt lv rest) (kf : ¬ (x ≤ 0) → J V X R cc own nL ret Q σ pc' lv rest) : J V X R cc own nL ret Q σ pc lv (.int x :: rest) := by
  subst hn; exact fun C H locs ls hP hS hl => lv_if_le C.1 C.2.1 hd ht (fun h => kt h C H locs ls hP hS hl) (fun h => kf h C H locs ls hP hS hl)
theorem J_icmp_le {x y : Int32} {off : Int} {tgt : Nat} (hd : decode cc pc = .ok (.if_icmp .le off, 3)) (hn : pc + 3 = pc') (ht : (pc : Int) + off = (tgt : Int)) (kt : x ≤ y → J V X R cc own nL ret Q σ tgt lv rest) (kf : ¬ (x ≤ y) → J V X R cc own nL ret Q σ pc' lv rest) : J V X R cc own nL ret Q σ pc lv (.int y :: .int x :: rest) := by
  subst hn; exact fun C H locs ls hP hS hl => lv_icmp_le C.1 C.2.1 hd ht (fun h => kt h C H locs ls hP hS hl) (fun h => kf h C H locs ls hP hS hl)
theorem J_goto {off : Int} {tgt : Nat} (hd : decode cc pc = .ok (.goto off, 3)) (ht : (pc : Int) + off = (tgt : Int)) (kk : J V X R cc own nL ret Q σ tgt lv rest) : J V X R cc own nL ret Q σ pc lv rest := fun C H locs ls hP hS hl => lv_goto C.1 C.2.1 hd ht (kk C H locs ls hP hS hl)
theorem J_tsIn {dflt lo hi : Int} {offs : Array Int} {len : Nat} {x : Int32} {off : Int} {tgt : Nat} (v : Int) (hd : decode cc pc = .ok (.tableswitch dflt lo hi offs, len)) (hx : x.toInt = v) (h1 : ¬ v < lo) (h2 : ¬ hi < v) (ho : offs[(v - lo).toNat]? = some off) (ht : (pc : Int) + off = (tgt : Int)) (kk : J V X R cc own nL ret Q σ tgt lv rest) : J V X R cc own nL ret Q σ pc lv (.int x :: rest) := by
  subst hx; exact fun C H locs ls hP hS hl => lv_tableIn C.1 C.2.1 hd h1 h2 ho ht (kk C H locs ls hP hS hl)
theorem J_tsOut {dflt lo hi : Int} {offs : Array Int} {len : Nat} {x : Int32} {tgt : Nat} (hd : decode cc pc = .ok (.tableswitch dflt lo hi offs, len)) (h : x.toInt < lo ∨ hi < x.toInt) (ht : (pc : Int) + dflt = (tgt : Int)) (kk : J V X R cc own nL ret Q σ tgt lv rest) : J V X R cc own nL ret Q σ pc lv (.int x :: rest) := fun C H locs ls hP hS hl => lv_tableOut C.1 C.2.1 hd h ht (kk C H locs ls hP hS hl)
theorem J_lks {dflt : Int} {ps : Array (Int × Int)} {len : Nat} {x : Int32} {off : Int} {tgt : Nat} (hd : decode cc pc = .ok (.lookupswitch dflt ps, len)) (hp : (ps.toList.zip (ps.toList.drop 1)).all (fun (a, next) => a.1 < next.1) = true) (ho : Op.lookupswitch.offset ps.toList dflt x.toInt = off) (ht : (pc : Int) + off = (tgt : Int)) (kk : J V X R cc own nL ret Q σ tgt lv rest) : J V X R cc own nL ret Q σ pc lv (.int x :: rest) := fun C H locs ls hP hS hl => lv_lookup C.1 C.2.1 hd hp ho ht (kk C H locs ls hP hS hl)
/-! fields -/
def FL (own : String) (idx ci k : Nat) : Prop := ∃ q : vw_C, cls[ci]? = some q ∧ k < q.2.2 ∧ (q.2.1 k).1 = q.1 ∧ ((Cond.fieldLink own idx q.1 (q.2.1 k).2.1 (q.2.1 k).2.2.1) ∈ lw_tbl ∨ ∃ h : String, (Cond.fieldLinkNest own idx q.1 (q.2.1 k).2.1 (q.2.1 k).2.2.1 h) ∈ lw_tbl)
def FP (own : String) (idx ci k : Nat) : Prop := FL own idx ci k ∧ ∃ q : vw_C, cls[ci]? = some q ∧ (q.2.1 k).2.2.2 = false ∧ parseFieldDescriptor (q.2.1 k).2.2.1 = some .int
theorem J_get0 {i ci k idx : Nat} {sp : List (Option Nat)} {v : Value} (hd : decode cc pc = .ok (.getfield idx, 3)) (hn : pc + 3 = pc') (hs : Sh i (.inl (ci, sp))) (hf : FL own idx ci k) (hv : (fld V σ i 0 sp)[k]? = some v) (kk : J V X R cc own nL ret Q σ pc' lv (v :: rest)) : J V X R cc own nL ret Q σ pc lv (rf V i :: rest) := by
  subst hn
  intro C H locs ls hP hS hl
  obtain ⟨⟨cn, T, N⟩, hc, hk, he, hw⟩ := hf
  dsimp only at he hw hk
  have hg := C.2.2.2.2.1.1
  have hK := C.2.2.2.2.1.2.1
  have ht : ∀ w ∈ u_ws cn T N, w.before (xa X) (xs X) = true := fun w h => by
    obtain ⟨h1, h2⟩ := (lay_all ci _ hc).1 w h
    exact hg w h1 h2 _
  rcases hw with hw | ⟨hh, hw⟩
  · exact va_get C.1 C.2.1 ht (fun _ h => h) C.2.2.2.1 hK hP i (wsv_at hs) hc k hk (hg _ hw rfl _) (fun x h => by rw [he] at h; exact h) hv hd (kk C H locs ls hP hS hl)
  · exact va_getN C.1 C.2.1 ht (fun _ h => h) C.2.2.2.1 hK hP i (wsv_at hs) hc k hk (hg _ hw rfl _) (fun x h => by rw [he] at h; exact h) hv hd (kk C H locs ls hP hS hl)
theorem J_getI {i ci k idx : Nat} {sp : List (Option Nat)} (hd : decode cc pc = .ok (.getfield idx, 3)) (hn : pc + 3 = pc') (hs : Sh i (.inl (ci, sp))) (hf : FL own idx ci k) (hv : sp[k]? = some none) (kk : J V X R cc own nL ret Q σ pc' lv (.int (σ.1 i k) :: rest)) : J V X R cc own nL ret Q σ pc lv (rf V i :: rest) :=
  J_get0 hd hn hs hf (by rw [fld_get, hv]; simp) kk
theorem J_getR {i j ci k idx : Nat} {sp : List (Option Nat)} (hd : decode cc pc = .ok (.getfield idx, 3)) (hn : pc + 3 = pc') (hs : Sh i (.inl (ci, sp))) (hf : FL own idx ci k) (hv : sp[k]? = some (some j)) (kk : J V X R cc own nL ret Q σ pc' lv (rf V j :: rest)) : J V X R cc own nL ret Q σ pc lv (rf V i :: rest) :=
  J_get0 hd hn hs hf (by rw [fld_get, hv]; simp) kk
theorem J_putI {i ci k idx : Nat} {sp : List (Option Nat)} {v : Int32} (hd : decode cc pc = .ok (.putfield idx, 3)) (hn : pc + 3 = pc') (hs : Sh i (.inl (ci, sp))) (hf : FP own idx ci k) (hv : sp[k]? = some none) (kk : J V X R cc own nL ret Q (pI σ i k v) pc' lv rest) : J V X R cc own nL ret Q σ pc lv (.int v :: rf V i :: rest) := by
  subst hn
  intro C H locs ls hP hS hl
  obtain ⟨⟨⟨cn, T, N⟩, hc, hk, he, hw⟩, q2, hc2, hfin, hty⟩ := hf
  cases hc.symm.trans hc2
  dsimp only at he hw hk hfin hty
  have hg := C.2.2.2.2.1.1
  have hK := C.2.2.2.2.1.2.1
  have hD := C.2.2.2.2.1.2.2.1 σ
  obtain ⟨hlay, ty0, ht1, ht2⟩ := lay_all ci _ hc
  have ht : ∀ w ∈ u_ws cn T N, w.before (xa X) (xs X) = true := fun w h => by
    obtain ⟨h1, h2⟩ := hlay w h
    exact hg w h1 h2 _
  have hlen : k < (fld V σ i 0 sp).length := by rw [fld_len]; exact (List.getElem?_eq_some_iff.mp hv).1
  have hset : (wsv V σ).set i (V.2.1 i, .inr (ci, (fld V σ i 0 sp).set k (.int v))) = wsv V (pI σ i k v) := by
    rw [← fld_put (V := V) (σ := σ) (i := i) (k := k) (v := v) sp 0 k hv (Nat.zero_add k)]
    exact wsv_set hs pI_1 pI_2
  rcases hw with hw | ⟨hh, hw⟩
  · refine va_put C.1 C.2.1 ht (fun _ h => h) ty0 ht1 ht2 C.2.2.2.1 hK hP hD hS i (wsv_at hs) hc k hk (hg _ hw rfl _) (fun x h => by rw [he] at h; exact h) hfin hty (vp_nar_int v) rfl hlen hd (fun H1 locs1 hP1 _ hS1 => ?_)
    rw [hset] at hP1
    exact kk C H1 locs1 ls hP1 hS1 hl
  · refine va_putN C.1 C.2.1 ht (fun _ h => h) ty0 ht1 ht2 C.2.2.2.1 hK hP hD hS i (wsv_at hs) hc k hk (hg _ hw rfl _) (fun x h => by rw [he] at h; exact h) hfin hty (vp_nar_int v) rfl hlen hd (fun H1 locs1 hP1 _ hS1 => ?_)
    rw [hset] at hP1
    exact kk C H1 locs1 ls hP1 hS1 hl
/-! rows -/
theorem J_ial {i n : Nat} {g : Nat → Nat} {x : Int32} (hd : decode cc pc = .ok (.iaload, 1)) (hn : pc + 1 = pc') (hs : Sh i (.inr (0, n, g))) (hin : vp_in x n) (kk : J V X R cc own nL ret Q σ pc' lv (.int (σ.1 i x.toNatClampNeg) :: rest)) : J V X R cc own nL ret Q σ pc lv (.int x :: rf V i :: rest) := by
  subst hn
  exact fun C H locs ls hP hS hl => va_iald C.1 C.2.1 C.2.2.2.2.1.2.1 hP i 0 (wsv_at hs) rfl hin hd (kk C H locs ls hP hS hl)
theorem J_lal {i n : Nat} {g : Nat → Nat} {x : Int32} (hd : decode cc pc = .ok (.laload, 1)) (hn : pc + 1 = pc') (hs : Sh i (.inr (1, n, g))) (hin : vp_in x n) (kk : J V X R cc own nL ret Q σ pc' lv (.long (σ.2 i x.toNatClampNeg) :: rest)) : J V X R cc own nL ret Q σ pc lv (.int x :: rf V i :: rest) := by
  subst hn
  exact fun C H locs ls hP hS hl => va_lald C.1 C.2.1 C.2.2.2.2.1.2.1 hP i 1 (wsv_at hs) rfl hin hd (kk C H locs ls hP hS hl)
theorem J_aal2 {i n : Nat} {g : Nat → Nat} {x : Int32} (hd : decode cc pc = .ok (.aaload, 1)) (hn : pc + 1 = pc') (hs : Sh i (.inr (2, n, g))) (hin : vp_in x n) (kk : J V X R cc own nL ret Q σ pc' lv (rf V (g x.toNatClampNeg) :: rest)) : J V X R cc own nL ret Q σ pc lv (.int x :: rf V i :: rest) := by
  subst hn
  exact fun C H locs ls hP hS hl => va_aldq C.1 C.2.1 C.2.2.2.2.1.2.1 hP i 2 (wsv_at hs) rfl hin hd (kk C H locs ls hP hS hl)
theorem J_aal3 {i n : Nat} {g : Nat → Nat} {x : Int32} (hd : decode cc pc = .ok (.aaload, 1)) (hn : pc + 1 = pc') (hs : Sh i (.inr (3, n, g))) (hin : vp_in x n) (kk : J V X R cc own nL ret Q σ pc' lv (rf V (g x.toNatClampNeg) :: rest)) : J V X R cc own nL ret Q σ pc lv (.int x :: rf V i :: rest) := by
  subst hn
  exact fun C H locs ls hP hS hl => va_aldq C.1 C.2.1 C.2.2.2.2.1.2.1 hP i 3 (wsv_at hs) rfl hin hd (kk C H locs ls hP hS hl)
theorem J_aal4 {i n : Nat} {g : Nat → Nat} {x : Int32} (hd : decode cc pc = .ok (.aaload, 1)) (hn : pc + 1 = pc') (hs : Sh i (.inr (4, n, g))) (hin : vp_in x n) (kk : J V X R cc own nL ret Q σ pc' lv (rf V (g x.toNatClampNeg) :: rest)) : J V X R cc own nL ret Q σ pc lv (.int x :: rf V i :: rest) := by
  subst hn
  exact fun C H locs ls hP hS hl => va_aldq C.1 C.2.1 C.2.2.2.2.1.2.1 hP i 4 (wsv_at hs) rfl hin hd (kk C H locs ls hP hS hl)
theorem J_ias {i n : Nat} {g : Nat → Nat} {x v : Int32} (hd : decode cc pc = .ok (.iastore, 1)) (hn : pc + 1 = pc') (hs : Sh i (.inr (0, n, g))) (hin : vp_in x n) (kk : J V X R cc own nL ret Q (pI σ i x.toNatClampNeg v) pc' lv rest) : J V X R cc own nL ret Q σ pc lv (.int v :: .int x :: rf V i :: rest) := by
  subst hn
  intro C H locs ls hP hS hl
  refine va_iast C.1 C.2.1 C.2.2.2.2.1.2.1 hP (C.2.2.2.2.1.2.2.1 σ) hS i 0 (wsv_at hs) rfl hin hd (fun H1 locs1 hP1 _ hS1 => ?_)
  have hset : (wsv V σ).set i (V.2.1 i, .inl (V.2.2.2.1 0, n, .inl (upd (σ.1 i) x.toNatClampNeg v))) = wsv V (pI σ i x.toNatClampNeg v) := by
    rw [← pI_self]
    exact wsv_set hs pI_1 pI_2
  rw [hset] at hP1
  exact kk C H1 locs1 ls hP1 hS1 hl
theorem J_las {i n : Nat} {g : Nat → Nat} {x : Int32} {v : Int64} (hd : decode cc pc = .ok (.lastore, 1)) (hn : pc + 1 = pc') (hs : Sh i (.inr (1, n, g))) (hin : vp_in x n) (kk : J V X R cc own nL ret Q (pL σ i x.toNatClampNeg v) pc' lv rest) : J V X R cc own nL ret Q σ pc lv (.long v :: .int x :: rf V i :: rest) := by
  subst hn
  intro C H locs ls hP hS hl
  refine va_last C.1 C.2.1 C.2.2.2.2.1.2.1 hP (C.2.2.2.2.1.2.2.1 σ) hS i 1 (wsv_at hs) rfl hin hd (fun H1 locs1 hP1 _ hS1 => ?_)
  have hset : (wsv V σ).set i (V.2.1 i, .inl (V.2.2.2.1 1, n, .inr (.inl (vp_updL (σ.2 i) x.toNatClampNeg v)))) = wsv V (pL σ i x.toNatClampNeg v) := by
    rw [← pL_self]
    exact wsv_set hs pL_1 pL_2
  rw [hset] at hP1
  exact kk C H1 locs1 ls hP1 hS1 hl
/-! returns -/
def Qr (V : Vx) (X : Xx) (r : Option Value) (σ' : Sg) : State → Prop := MQ (xb X) (fun _ s0 oc t => oc = .returned r ∧ va_P V.1 cls (wsv V σ') t.heap ∧ va_F (Ab V) s0 t) (xa X) (xs X) (xn X) (xk X) (Ab V)
theorem J_iret {v : Int32} (hd : decode cc pc = .ok (.ireturn, 1)) : J V X R cc own nL (some .int) (Qr V X (some (.int v)) σ) σ pc lv [.int v] := fun C H locs ls hP hS hl => W.iret C.1 C.2.1 C.2.2.2.2.2.2.2 (fun t ht _ => ⟨rfl, by rw [ht]; exact hP, hS.F ht⟩) hS.2.2 hd C.2.2.2.2.2.2.1
theorem J_lret {v : Int64} (hd : decode cc pc = .ok (.lreturn, 1)) : J V X R cc own nL (some .long) (Qr V X (some (.long v)) σ) σ pc lv [.long v] := fun C H locs ls hP hS hl => W.lret C.1 C.2.1 C.2.2.2.2.2.2.2 (fun t ht _ => ⟨rfl, by rw [ht]; exact hP, hS.F ht⟩) hS.2.2 hd C.2.2.2.2.2.2.1
theorem J_zret {v : Int32} (hz : v = 0 ∨ v = 1) (hd : decode cc pc = .ok (.ireturn, 1)) : J V X R cc own nL (some .boolean) (Qr V X (some (.int v)) σ) σ pc lv [.int v] := fun C H locs ls hP hS hl => W.zret C.1 C.2.1 C.2.2.2.2.2.2.2 (by rcases hz with rfl | rfl <;> rfl) (fun t ht _ => ⟨rfl, by rw [ht]; exact hP, hS.F ht⟩) hS.2.2 hd C.2.2.2.2.2.2.1
theorem J_vret (hd : decode cc pc = .ok (.return_, 1)) : J V X R cc own nL none (Qr V X none σ) σ pc lv [] := fun C H locs ls hP hS hl => W.vret C.1 C.2.1 C.2.2.2.2.2.2.2 (fun t ht _ => ⟨rfl, by rw [ht]; exact hP, hS.F ht⟩) hS.2.2 hd C.2.2.2.2.2.2.1
theorem J_aret {v : Nat} {cn : String} (hd : decode cc pc = .ok (.areturn, 1)) : J V X R cc own nL (some (.object cn)) (Qr V X (some (rf V v)) σ) σ pc lv [rf V v] := fun C H locs ls hP hS hl => W.aret C.1 C.2.1 C.2.2.2.2.2.2.2 (Or.inl ⟨_, rfl⟩) (Or.inr ⟨_, rfl⟩) (fun t ht _ => ⟨rfl, by rw [ht]; exact hP, hS.F ht⟩) hS.2.2 hd C.2.2.2.2.2.2.1
end JR
/-! contracts -/
def Ct (V : Vx) (l : Launch) (y : MethodName) (cc : ByteArray) (nL : Nat) (ret : Option FieldType) (rm : Room) (av : List Value) (σ : Sg) (r : Option Value) (σ' : Sg) : Prop :=
  Met l y [.code y cc nL ret] rm (fun a U => a = av.toArray ∧ Ws V U ∧ va_P V.1 cls (wsv V σ) U.heap) (fun _ s0 oc t => oc = .returned r ∧ va_P V.1 cls (wsv V σ') t.heap ∧ va_F (Ab V) s0 t) 0 0 (Ab V)
theorem Ct.ofJ {V : Vx} {l : Launch} {y : MethodName} {cc : ByteArray} {nL : Nat} {ret : Option FieldType} {rm : Room} {av : List Value} {σ σ' : Sg} {r : Option Value} (hy : plainName y.cls = true) (hn : (lg_sl av).length ≤ nL)
    (h : ∀ X : Xx, xl X = l → J V X rm cc y.cls nL ret (Qr V X r σ') σ 0 (lv_args 0 av) []) : Ct V l y cc nL ret rm av σ r σ' := by
  refine Met.ofW (cc := cc) (maxL := nL) (ret := ret) hy rfl ?_
  intro p e s m args below meth c s₁ B hml hv
  obtain ⟨rfl, hWs, hP⟩ := hv
  rw [lg_entry_eq]
  exact h (p, l, e, s, m, av.toArray, below, meth, c, 0, 0) rfl ⟨B.exec, B.bytes, hml, findClass_of_methodNamed B.named, hWs, ⟨Nat.zero_le _, Nat.zero_le _⟩, B.notSynchronized, B.returns⟩ s.heap [] _ hP va_S.rf (lv_entry av hn)
/-! calls -/
def MV (own : String) (idx : Nat) (C : String) (y : MethodName) (cc : ByteArray) (nL : Nat) (ret : Option FieldType) (n : Nat) : Prop :=
  ((Cond.methodLink own idx y) ∈ lw_tbl ∨ ∃ h : String, (Cond.methodLinkNest own idx y h) ∈ lw_tbl) ∧ Cond.instanceMethod y ∈ lw_tbl ∧ Cond.selects C y y ∈ lw_tbl ∧ Cond.initialized y.cls ∈ lw_tbl ∧ Cond.code y cc nL ret ∈ lw_tbl ∧ (y.cls ≠ "java/lang/invoke/MethodHandle" ∧ y.cls ≠ "java/lang/invoke/VarHandle") ∧ (parseMethodDescriptor y.desc).map (fun d => d.parameters.length) = some n
def MS (own : String) (idx : Nat) (y : MethodName) (cc : ByteArray) (nL : Nat) (ret : Option FieldType) (n : Nat) : Prop :=
  ((Cond.methodLink own idx y) ∈ lw_tbl ∨ ∃ h : String, (Cond.methodLinkNest own idx y h) ∈ lw_tbl) ∧ Cond.static y ∈ lw_tbl ∧ Cond.initialized y.cls ∈ lw_tbl ∧ Cond.code y cc nL ret ∈ lw_tbl ∧ (y.cls ≠ "java/lang/invoke/MethodHandle" ∧ y.cls ≠ "java/lang/invoke/VarHandle") ∧ (parseMethodDescriptor y.desc).map (fun d => d.parameters.length) = some n
theorem parse_len {y : MethodName} {n : Nat} (h : (parseMethodDescriptor y.desc).map (fun d => d.parameters.length) = some n) : ∀ sg, parseMethodDescriptor y.desc = some sg → n = sg.parameters.length := fun sg hs => by
  rw [hs] at h
  exact (Option.some.inj h).symm
theorem pay_code {y : MethodName} {cc : ByteArray} {nL : Nat} {ret : Option FieldType} {s : State} (h : GW s) (hm : Cond.code y cc nL ret ∈ lw_tbl) : ∀ w ∈ [Cond.code y cc nL ret], ∀ (a' : Array Value) (U : State), s.WarmedH U.vm → w.before a' U = true := by
  intro w hw a' U hW
  have e : w = Cond.code y cc nL ret := by simpa using hw
  subst e
  exact (h.warm hW) _ hm rfl a'
section JC
variable {V : Vx} {X : Xx} {R : Room} {cc : ByteArray} {own : String} {nL : Nat} {ret : Option FieldType} {Q : State → Prop} {σ σ' : Sg} {pc pc' : Nat} {lv : List (Nat × Value)} {st rest st' : List Value}
theorem ct_blind {V : Vx} {av : List Value} {σ : Sg} : FrameBlind (fun (a : Array Value) (U : State) => a = av.toArray ∧ Ws V U ∧ va_P V.1 cls (wsv V σ) U.heap) := by
  intro a U g mk h
  exact ⟨h.1, h.2.1.same rfl rfl, h.2.2⟩
theorem J_after {H : Heap} {locs : List Loc} {ls : Array Slot} {r : Option Value} {a : Array Value} {y : MethodName} (C : Cx V X R cc own nL ret) (hS : va_S (Ab V) (xs X).heap H locs) (hl : lv_has ls nL lv) (hn : pc + 3 = pc') (hr : r.toList ++ rest = st')
    (hrun : va_Run (xp X) (xl X) (xe X) R (xs X) (xm X) (xa X) (xb X) (xh X) (xc X) H locs (xn X) (xk X) 0 0 (F0 (xm X) pc ls st) rest (fun s0 oc t => oc = .returned r ∧ va_P V.1 cls (wsv V σ') t.heap ∧ va_F (Ab V) s0 t) (Ab V))
    (kk : J V X R cc own nL ret Q σ' pc' lv st') : Wx X R Q H locs (F0 (xm X) pc ls st) := by
  subst hn; subst hr
  intro T hT Y
  obtain ⟨v, s0, t, T', L, h0, X', hL, e1, e2, ⟨ho, hP1, hF⟩, go⟩ := hrun T hT Y
  cases ho
  rw [← e1] at hP1
  unfold va_F at hF
  rw [h0, ← e1] at hF
  have hS1 : va_S (Ab V) (xs X).heap T'.heap (locs ++ L) := by
    refine ⟨Nat.le_trans hS.1 hF.1, fun q h1 h2 => ?_, fun q hq => ?_⟩
    · rw [hF.2 q (Nat.lt_of_lt_of_le h1 hS.1) h2]; exact hS.2.1 q h1 h2
    · rcases List.mem_append.mp hq with h | h
      · exact hS.2.2 q h
      · exact hL q h
  obtain ⟨t2, a1, b1⟩ := kk C T'.heap (locs ++ L) ls hP1 hS1 hl T' rfl X'
  exact ⟨t2, go t2 a1, b1⟩
theorem J_V {i ci idx n nL' : Nat} {sp : List (Option Nat)} {y : MethodName} {cc' : ByteArray} {ret' : Option FieldType} {rm : Room} {as : List Value} {r : Option Value} {q : vw_C} (hd : decode cc pc = .ok (.invokevirtual idx, 3)) (hn : pc + 3 = pc') (hs : Sh i (.inl (ci, sp))) (hc : cls[ci]? = some q) (hm : MV own idx q.1 y cc' nL' ret' n) (hct : Ct V (xl X) y cc' nL' ret' rm (rf V i :: as) σ r σ')
    (hst : st = as.reverse ++ rf V i :: rest) (has : as.length = n) (hR : rm.frames + 1 ≤ R.frames ∧ 8 + (nL' + 11) + rm.locals ≤ R.locals) (hz : rm.cells = 0 ∧ rm.slots = 0) (hw : (rest.map fun v => v.category).sum ≤ 8) (hr : r.toList ++ rest = st') (kk : J V X R cc own nL ret Q σ' pc' lv st') : J V X R cc own nL ret Q σ pc lv st := by
  intro C H locs ls hP hS hl
  have hg := C.2.2.2.2.1.1
  obtain ⟨hlk, hin, hsel, hini, hcode, hmh, hpar⟩ := hm
  have hfix : CallFix (xp X) (xm X) (xc X) cc nL (xs X) (xa X) [] own := ⟨C.1, C.2.1, C.2.2.1, C.2.2.2.1, fun w h => by simp at h⟩
  have hpre : PreV (xs X) H q.1 (V.2.1 i) (fun (a : Array Value) (U : State) => a = (rf V i :: as).toArray ∧ Ws V U ∧ va_P V.1 cls (wsv V σ) U.heap) as :=
    ⟨ct_blind, va_recv C.2.2.2.2.1.2.1 hP hc (wsv_at hs), fun U hU hW => ⟨rfl, C.2.2.2.2.1.moved hU hW (fun q h1 h2 => hS.2.1 q h1 h2), by rw [hU]; exact hP⟩⟩
  have hf : xn X + 0 ≤ R.cells ∧ xk X + 0 ≤ R.slots := C.2.2.2.2.2.1
  refine J_after (y := y) (a := xa X) C hS hl hn hr ?_ kk
  rcases hlk with hlk | ⟨hh, hlk⟩
  · exact va_runV hfix hct (C := q.1) ⟨⟨hz.1, hz.2, hR.1, hR.2, pay_code hg hcode, List.mem_cons_self, hg _ hcode rfl _, hg _ hini rfl _, hmh, parse_len hpar, hg _ hlk rfl _⟩, hg _ hin rfl _, hg _ hsel rfl _⟩ hpre rfl has hl.1 hst (lv_room hw) hd hf
  · exact va_runVN hfix hct (C := q.1) ⟨⟨⟨hz.1, hz.2, hR.1, hR.2, pay_code hg hcode, List.mem_cons_self⟩, hg _ hcode rfl _, hg _ hini rfl _, hmh, parse_len hpar, hg _ hlk rfl _⟩, hg _ hin rfl _, hg _ hsel rfl _⟩ hpre rfl has hl.1 hst (lv_room hw) hd hf
theorem J_S {idx n nL' : Nat} {y : MethodName} {cc' : ByteArray} {ret' : Option FieldType} {rm : Room} {as : List Value} {r : Option Value} (hd : decode cc pc = .ok (.invokestatic idx, 3)) (hn : pc + 3 = pc') (hm : MS own idx y cc' nL' ret' n) (hct : Ct V (xl X) y cc' nL' ret' rm as σ r σ')
    (hst : st = as.reverse ++ rest) (has : as.length = n) (hR : rm.frames + 1 ≤ R.frames ∧ 8 + (nL' + 11) + rm.locals ≤ R.locals) (hz : rm.cells = 0 ∧ rm.slots = 0) (hw : (rest.map fun v => v.category).sum ≤ 8) (hr : r.toList ++ rest = st') (kk : J V X R cc own nL ret Q σ' pc' lv st') : J V X R cc own nL ret Q σ pc lv st := by
  intro C H locs ls hP hS hl
  have hg := C.2.2.2.2.1.1
  obtain ⟨hlk, hstt, hini, hcode, hmh, hpar⟩ := hm
  have hfix : CallFix (xp X) (xm X) (xc X) cc nL (xs X) (xa X) [] own := ⟨C.1, C.2.1, C.2.2.1, C.2.2.2.1, fun w h => by simp at h⟩
  have hpre : PreS (xs X) H (fun (a : Array Value) (U : State) => a = as.toArray ∧ Ws V U ∧ va_P V.1 cls (wsv V σ) U.heap) as :=
    ⟨ct_blind, fun U hU hW => ⟨rfl, C.2.2.2.2.1.moved hU hW (fun q h1 h2 => hS.2.1 q h1 h2), by rw [hU]; exact hP⟩⟩
  have hf : xn X + 0 ≤ R.cells ∧ xk X + 0 ≤ R.slots := C.2.2.2.2.2.1
  refine J_after (y := y) (a := xa X) C hS hl hn hr ?_ kk
  rcases hlk with hlk | ⟨hh, hlk⟩
  · exact va_runS hfix hct ⟨⟨hz.1, hz.2, hR.1, hR.2, pay_code hg hcode, List.mem_cons_self, hg _ hcode rfl _, hg _ hini rfl _, hmh, parse_len hpar, hg _ hlk rfl _⟩, hg _ hstt rfl _⟩ hpre rfl has hl.1 hst (lv_room hw) hd hf
  · exact va_runSN hfix hct ⟨⟨⟨hz.1, hz.2, hR.1, hR.2, pay_code hg hcode, List.mem_cons_self⟩, hg _ hcode rfl _, hg _ hini rfl _, hmh, parse_len hpar, hg _ hlk rfl _⟩, hg _ hstt rfl _, trivial⟩ hpre rfl has hl.1 hst (lv_room hw) hd hf
/-- the two static rows -/
theorem J_gsL {idx : Nat} (hd : decode cc pc = .ok (.getstatic idx, 3)) (hn : pc + 3 = pc') (hw : Cond.fieldLink own idx "GorgeRopes" "LEAST_SETTING" "[I" ∈ lw_tbl) (kk : J V X R cc own nL ret Q σ pc' lv (.ref V.2.2.2.2.1 :: st)) : J V X R cc own nL ret Q σ pc lv st := by
  subst hn
  exact fun C H locs ls hP hS hl => va_gets C.1 C.2.1 C.2.2.2.2.1.2.2.2.1 hS C.2.2.2.1 (C.2.2.2.2.1.1 _ hw rfl _) (fun _ h => h) hd (kk C H locs ls hP hS hl)
theorem J_gsM {idx : Nat} (hd : decode cc pc = .ok (.getstatic idx, 3)) (hn : pc + 3 = pc') (hw : Cond.fieldLink own idx "GorgeRopes" "MOST_SETTING" "[I" ∈ lw_tbl) (kk : J V X R cc own nL ret Q σ pc' lv (.ref V.2.2.2.2.2 :: st)) : J V X R cc own nL ret Q σ pc lv st := by
  subst hn
  exact fun C H locs ls hP hS hl => va_gets C.1 C.2.1 C.2.2.2.2.1.2.2.2.2.2.1 hS C.2.2.2.1 (C.2.2.2.2.1.1 _ hw rfl _) (fun _ h => h) hd (kk C H locs ls hP hS hl)
theorem J_ialL {x : Int32} (hd : decode cc pc = .ok (.iaload, 1)) (hn : pc + 1 = pc') (hin : vp_in x 3) (kk : J V X R cc own nL ret Q σ pc' lv (.int (tbL x.toNatClampNeg) :: st)) : J V X R cc own nL ret Q σ pc lv (.int x :: .ref V.2.2.2.2.1 :: st) := by
  subst hn
  exact fun C H locs ls hP hS hl => va_ti C.1 C.2.1 C.2.2.2.2.1.2.2.2.2.1 hS hin rfl hd (kk C H locs ls hP hS hl)
theorem J_ialM {x : Int32} (hd : decode cc pc = .ok (.iaload, 1)) (hn : pc + 1 = pc') (hin : vp_in x 3) (kk : J V X R cc own nL ret Q σ pc' lv (.int (tbM x.toNatClampNeg) :: st)) : J V X R cc own nL ret Q σ pc lv (.int x :: .ref V.2.2.2.2.2 :: st) := by
  subst hn
  exact fun C H locs ls hP hS hl => va_ti C.1 C.2.1 C.2.2.2.2.1.2.2.2.2.2.2 hS hin rfl hd (kk C H locs ls hP hS hl)
end JC
end
