-- ===== PART A: goes FIRST, ahead of the names: the tables' words, and 'selects' of the private methods out of them =====
/-- a private method of a class that the tables say can be made, by its rows of tables_1 -/
def lw_okq (q : MethodName × Nat) : Prop := (q.1.cls ≠ "java/lang/invoke/MethodHandle" ∧ q.1.cls ≠ "java/lang/invoke/VarHandle") ∧ Cond.instantiable q.1.cls q.2 ∈ tables_1 ∧ Cond.privateMethod q.1 ∈ tables_1 ∧ Cond.instanceMethod q.1 ∈ tables_1
theorem lw_p0 : lw_okq (⟨"NeverSeen$Reader", "advance", "()V"⟩, 10) := ⟨⟨by decide +kernel, by decide +kernel⟩, List.mem_of_getElem? (i := 104) (by decide +kernel), List.mem_of_getElem? (i := 302) (by decide +kernel), List.mem_of_getElem? (i := 303) (by decide +kernel)⟩
theorem lw_p1 : lw_okq (⟨"NeverSeen$Reader", "takeWord", "()V"⟩, 10) := ⟨⟨by decide +kernel, by decide +kernel⟩, List.mem_of_getElem? (i := 104) (by decide +kernel), List.mem_of_getElem? (i := 309) (by decide +kernel), List.mem_of_getElem? (i := 310) (by decide +kernel)⟩
theorem lw_p2 : lw_okq (⟨"NeverSeen$Reader", "wordOnTape", "()I"⟩, 10) := ⟨⟨by decide +kernel, by decide +kernel⟩, List.mem_of_getElem? (i := 104) (by decide +kernel), List.mem_of_getElem? (i := 313) (by decide +kernel), List.mem_of_getElem? (i := 314) (by decide +kernel)⟩
theorem lw_p3 : lw_okq (⟨"NeverSeen$Reader", "isOnTape", "(II)Z"⟩, 10) := ⟨⟨by decide +kernel, by decide +kernel⟩, List.mem_of_getElem? (i := 104) (by decide +kernel), List.mem_of_getElem? (i := 320) (by decide +kernel), List.mem_of_getElem? (i := 321) (by decide +kernel)⟩
theorem lw_p4 : lw_okq (⟨"NeverSeen$Reader", "refuse", "()V"⟩, 10) := ⟨⟨by decide +kernel, by decide +kernel⟩, List.mem_of_getElem? (i := 104) (by decide +kernel), List.mem_of_getElem? (i := 324) (by decide +kernel), List.mem_of_getElem? (i := 325) (by decide +kernel)⟩
theorem lw_p5 : lw_okq (⟨"NeverSeen$Reader", "takeNumber", "()V"⟩, 10) := ⟨⟨by decide +kernel, by decide +kernel⟩, List.mem_of_getElem? (i := 104) (by decide +kernel), List.mem_of_getElem? (i := 331) (by decide +kernel), List.mem_of_getElem? (i := 332) (by decide +kernel)⟩
theorem lw_p6 : lw_okq (⟨"NeverSeen$Reader", "expect", "(I)V"⟩, 10) := ⟨⟨by decide +kernel, by decide +kernel⟩, List.mem_of_getElem? (i := 104) (by decide +kernel), List.mem_of_getElem? (i := 338) (by decide +kernel), List.mem_of_getElem? (i := 339) (by decide +kernel)⟩
theorem lw_p7 : lw_okq (⟨"NeverSeen$Reader", "readEither", "(I)V"⟩, 10) := ⟨⟨by decide +kernel, by decide +kernel⟩, List.mem_of_getElem? (i := 104) (by decide +kernel), List.mem_of_getElem? (i := 342) (by decide +kernel), List.mem_of_getElem? (i := 343) (by decide +kernel)⟩
theorem lw_p8 : lw_okq (⟨"NeverSeen$Reader", "readBoth", "(I)V"⟩, 10) := ⟨⟨by decide +kernel, by decide +kernel⟩, List.mem_of_getElem? (i := 104) (by decide +kernel), List.mem_of_getElem? (i := 346) (by decide +kernel), List.mem_of_getElem? (i := 347) (by decide +kernel)⟩
theorem lw_p9 : lw_okq (⟨"NeverSeen$Reader", "readNot", "(I)V"⟩, 10) := ⟨⟨by decide +kernel, by decide +kernel⟩, List.mem_of_getElem? (i := 104) (by decide +kernel), List.mem_of_getElem? (i := 350) (by decide +kernel), List.mem_of_getElem? (i := 351) (by decide +kernel)⟩
theorem lw_p10 : lw_okq (⟨"NeverSeen$Reader", "write", "(I)V"⟩, 10) := ⟨⟨by decide +kernel, by decide +kernel⟩, List.mem_of_getElem? (i := 104) (by decide +kernel), List.mem_of_getElem? (i := 354) (by decide +kernel), List.mem_of_getElem? (i := 355) (by decide +kernel)⟩
theorem lw_p11 : lw_okq (⟨"NeverSeen$Reader", "readSum", "(I)V"⟩, 10) := ⟨⟨by decide +kernel, by decide +kernel⟩, List.mem_of_getElem? (i := 104) (by decide +kernel), List.mem_of_getElem? (i := 358) (by decide +kernel), List.mem_of_getElem? (i := 359) (by decide +kernel)⟩
theorem lw_p12 : lw_okq (⟨"NeverSeen$Reader", "readTerm", "(I)V"⟩, 10) := ⟨⟨by decide +kernel, by decide +kernel⟩, List.mem_of_getElem? (i := 104) (by decide +kernel), List.mem_of_getElem? (i := 362) (by decide +kernel), List.mem_of_getElem? (i := 363) (by decide +kernel)⟩
theorem lw_p13 : lw_okq (⟨"NeverSeen$Reader", "readOne", "(I)V"⟩, 10) := ⟨⟨by decide +kernel, by decide +kernel⟩, List.mem_of_getElem? (i := 104) (by decide +kernel), List.mem_of_getElem? (i := 366) (by decide +kernel), List.mem_of_getElem? (i := 367) (by decide +kernel)⟩
theorem lw_p14 : lw_okq (⟨"NeverSeen", "longestFree", "(II)I"⟩, 10) := ⟨⟨by decide +kernel, by decide +kernel⟩, List.mem_of_getElem? (i := 17) (by decide +kernel), List.mem_of_getElem? (i := 504) (by decide +kernel), List.mem_of_getElem? (i := 505) (by decide +kernel)⟩
theorem lw_p15 : lw_okq (⟨"NeverSeen", "isAskedOfMorning", "(I)Z"⟩, 10) := ⟨⟨by decide +kernel, by decide +kernel⟩, List.mem_of_getElem? (i := 17) (by decide +kernel), List.mem_of_getElem? (i := 516) (by decide +kernel), List.mem_of_getElem? (i := 517) (by decide +kernel)⟩
def lw_privs_1 : List (MethodName × Nat) := [(⟨"NeverSeen$Reader", "advance", "()V"⟩, 10), (⟨"NeverSeen$Reader", "takeWord", "()V"⟩, 10), (⟨"NeverSeen$Reader", "wordOnTape", "()I"⟩, 10), (⟨"NeverSeen$Reader", "isOnTape", "(II)Z"⟩, 10), (⟨"NeverSeen$Reader", "refuse", "()V"⟩, 10), (⟨"NeverSeen$Reader", "takeNumber", "()V"⟩, 10), (⟨"NeverSeen$Reader", "expect", "(I)V"⟩, 10), (⟨"NeverSeen$Reader", "readEither", "(I)V"⟩, 10), (⟨"NeverSeen$Reader", "readBoth", "(I)V"⟩, 10), (⟨"NeverSeen$Reader", "readNot", "(I)V"⟩, 10), (⟨"NeverSeen$Reader", "write", "(I)V"⟩, 10), (⟨"NeverSeen$Reader", "readSum", "(I)V"⟩, 10), (⟨"NeverSeen$Reader", "readTerm", "(I)V"⟩, 10), (⟨"NeverSeen$Reader", "readOne", "(I)V"⟩, 10), (⟨"NeverSeen", "longestFree", "(II)I"⟩, 10), (⟨"NeverSeen", "isAskedOfMorning", "(I)Z"⟩, 10)]
theorem lw_r1 : ∀ q ∈ lw_privs_1, lw_okq q := List.forall_mem_cons.mpr ⟨lw_p0, List.forall_mem_cons.mpr ⟨lw_p1, List.forall_mem_cons.mpr ⟨lw_p2, List.forall_mem_cons.mpr ⟨lw_p3, List.forall_mem_cons.mpr ⟨lw_p4, List.forall_mem_cons.mpr ⟨lw_p5, List.forall_mem_cons.mpr ⟨lw_p6, List.forall_mem_cons.mpr ⟨lw_p7, List.forall_mem_cons.mpr ⟨lw_p8, List.forall_mem_cons.mpr ⟨lw_p9, List.forall_mem_cons.mpr ⟨lw_p10, List.forall_mem_cons.mpr ⟨lw_p11, List.forall_mem_cons.mpr ⟨lw_p12, List.forall_mem_cons.mpr ⟨lw_p13, List.forall_mem_cons.mpr ⟨lw_p14, List.forall_mem_cons.mpr ⟨lw_p15, fun _ h => absurd h List.not_mem_nil⟩⟩⟩⟩⟩⟩⟩⟩⟩⟩⟩⟩⟩⟩⟩⟩
theorem lw_p16 : lw_okq (⟨"NeverSeen$Day", "turn", "(III)V"⟩, 15) := ⟨⟨by decide +kernel, by decide +kernel⟩, List.mem_of_getElem? (i := 144) (by decide +kernel), List.mem_of_getElem? (i := 539) (by decide +kernel), List.mem_of_getElem? (i := 540) (by decide +kernel)⟩
theorem lw_p17 : lw_okq (⟨"NeverSeen$Day", "tells", "(IIII)I"⟩, 15) := ⟨⟨by decide +kernel, by decide +kernel⟩, List.mem_of_getElem? (i := 144) (by decide +kernel), List.mem_of_getElem? (i := 544) (by decide +kernel), List.mem_of_getElem? (i := 545) (by decide +kernel)⟩
theorem lw_p18 : lw_okq (⟨"NeverSeen$Day", "othersWith", "(I)I"⟩, 15) := ⟨⟨by decide +kernel, by decide +kernel⟩, List.mem_of_getElem? (i := 144) (by decide +kernel), List.mem_of_getElem? (i := 548) (by decide +kernel), List.mem_of_getElem? (i := 549) (by decide +kernel)⟩
theorem lw_p19 : lw_okq (⟨"NeverSeen$Day", "isAllDone", "()Z"⟩, 15) := ⟨⟨by decide +kernel, by decide +kernel⟩, List.mem_of_getElem? (i := 144) (by decide +kernel), List.mem_of_getElem? (i := 581) (by decide +kernel), List.mem_of_getElem? (i := 582) (by decide +kernel)⟩
theorem lw_p20 : lw_okq (⟨"NeverSeen", "firstOrder", "(I)I"⟩, 10) := ⟨⟨by decide +kernel, by decide +kernel⟩, List.mem_of_getElem? (i := 17) (by decide +kernel), List.mem_of_getElem? (i := 605) (by decide +kernel), List.mem_of_getElem? (i := 606) (by decide +kernel)⟩
theorem lw_p21 : lw_okq (⟨"NeverSeen", "nextOrder", "(I)V"⟩, 10) := ⟨⟨by decide +kernel, by decide +kernel⟩, List.mem_of_getElem? (i := 17) (by decide +kernel), List.mem_of_getElem? (i := 619) (by decide +kernel), List.mem_of_getElem? (i := 620) (by decide +kernel)⟩
theorem lw_p22 : lw_okq (⟨"NeverSeen", "swapPlaces", "(II)V"⟩, 10) := ⟨⟨by decide +kernel, by decide +kernel⟩, List.mem_of_getElem? (i := 17) (by decide +kernel), List.mem_of_getElem? (i := 623) (by decide +kernel), List.mem_of_getElem? (i := 624) (by decide +kernel)⟩
theorem lw_p23 : lw_okq (⟨"NeverSeen", "isTold", "(LNeverSeen$Sheet;I)Z"⟩, 10) := ⟨⟨by decide +kernel, by decide +kernel⟩, List.mem_of_getElem? (i := 17) (by decide +kernel), List.mem_of_getElem? (i := 651) (by decide +kernel), List.mem_of_getElem? (i := 652) (by decide +kernel)⟩
theorem lw_p24 : lw_okq (⟨"NeverSeen", "doorChoices", "(I)I"⟩, 10) := ⟨⟨by decide +kernel, by decide +kernel⟩, List.mem_of_getElem? (i := 17) (by decide +kernel), List.mem_of_getElem? (i := 659) (by decide +kernel), List.mem_of_getElem? (i := 660) (by decide +kernel)⟩
theorem lw_p25 : lw_okq (⟨"NeverSeen", "isSeenFromDoor", "(LNeverSeen$Sheet;I)Z"⟩, 10) := ⟨⟨by decide +kernel, by decide +kernel⟩, List.mem_of_getElem? (i := 17) (by decide +kernel), List.mem_of_getElem? (i := 663) (by decide +kernel), List.mem_of_getElem? (i := 664) (by decide +kernel)⟩
theorem lw_p26 : lw_okq (⟨"NeverSeenModel", "spell", "(IIIIIIIII)V"⟩, 59) := ⟨⟨by decide +kernel, by decide +kernel⟩, List.mem_of_getElem? (i := 748) (by decide +kernel), List.mem_of_getElem? (i := 754) (by decide +kernel), List.mem_of_getElem? (i := 755) (by decide +kernel)⟩
theorem lw_p27 : lw_okq (⟨"NeverSeenModel", "isOf", "(II)Z"⟩, 59) := ⟨⟨by decide +kernel, by decide +kernel⟩, List.mem_of_getElem? (i := 748) (by decide +kernel), List.mem_of_getElem? (i := 944) (by decide +kernel), List.mem_of_getElem? (i := 945) (by decide +kernel)⟩
theorem lw_p28 : lw_okq (⟨"NeverSeenModel", "isStay", "(I)Z"⟩, 59) := ⟨⟨by decide +kernel, by decide +kernel⟩, List.mem_of_getElem? (i := 748) (by decide +kernel), List.mem_of_getElem? (i := 952) (by decide +kernel), List.mem_of_getElem? (i := 953) (by decide +kernel)⟩
theorem lw_p29 : lw_okq (⟨"NeverSeenModel", "isMaid", "(I)Z"⟩, 59) := ⟨⟨by decide +kernel, by decide +kernel⟩, List.mem_of_getElem? (i := 748) (by decide +kernel), List.mem_of_getElem? (i := 956) (by decide +kernel), List.mem_of_getElem? (i := 957) (by decide +kernel)⟩
theorem lw_p30 : lw_okq (⟨"NeverSeenModel", "lays", "(III)V"⟩, 59) := ⟨⟨by decide +kernel, by decide +kernel⟩, List.mem_of_getElem? (i := 748) (by decide +kernel), List.mem_of_getElem? (i := 970) (by decide +kernel), List.mem_of_getElem? (i := 971) (by decide +kernel)⟩
theorem lw_p31 : lw_okq (⟨"NeverSeenModel", "gathers", "()V"⟩, 59) := ⟨⟨by decide +kernel, by decide +kernel⟩, List.mem_of_getElem? (i := 748) (by decide +kernel), List.mem_of_getElem? (i := 995) (by decide +kernel), List.mem_of_getElem? (i := 996) (by decide +kernel)⟩
def lw_privs_2 : List (MethodName × Nat) := [(⟨"NeverSeen$Day", "turn", "(III)V"⟩, 15), (⟨"NeverSeen$Day", "tells", "(IIII)I"⟩, 15), (⟨"NeverSeen$Day", "othersWith", "(I)I"⟩, 15), (⟨"NeverSeen$Day", "isAllDone", "()Z"⟩, 15), (⟨"NeverSeen", "firstOrder", "(I)I"⟩, 10), (⟨"NeverSeen", "nextOrder", "(I)V"⟩, 10), (⟨"NeverSeen", "swapPlaces", "(II)V"⟩, 10), (⟨"NeverSeen", "isTold", "(LNeverSeen$Sheet;I)Z"⟩, 10), (⟨"NeverSeen", "doorChoices", "(I)I"⟩, 10), (⟨"NeverSeen", "isSeenFromDoor", "(LNeverSeen$Sheet;I)Z"⟩, 10), (⟨"NeverSeenModel", "spell", "(IIIIIIIII)V"⟩, 59), (⟨"NeverSeenModel", "isOf", "(II)Z"⟩, 59), (⟨"NeverSeenModel", "isStay", "(I)Z"⟩, 59), (⟨"NeverSeenModel", "isMaid", "(I)Z"⟩, 59), (⟨"NeverSeenModel", "lays", "(III)V"⟩, 59), (⟨"NeverSeenModel", "gathers", "()V"⟩, 59)]
theorem lw_r2 : ∀ q ∈ lw_privs_2, lw_okq q := List.forall_mem_cons.mpr ⟨lw_p16, List.forall_mem_cons.mpr ⟨lw_p17, List.forall_mem_cons.mpr ⟨lw_p18, List.forall_mem_cons.mpr ⟨lw_p19, List.forall_mem_cons.mpr ⟨lw_p20, List.forall_mem_cons.mpr ⟨lw_p21, List.forall_mem_cons.mpr ⟨lw_p22, List.forall_mem_cons.mpr ⟨lw_p23, List.forall_mem_cons.mpr ⟨lw_p24, List.forall_mem_cons.mpr ⟨lw_p25, List.forall_mem_cons.mpr ⟨lw_p26, List.forall_mem_cons.mpr ⟨lw_p27, List.forall_mem_cons.mpr ⟨lw_p28, List.forall_mem_cons.mpr ⟨lw_p29, List.forall_mem_cons.mpr ⟨lw_p30, List.forall_mem_cons.mpr ⟨lw_p31, fun _ h => absurd h List.not_mem_nil⟩⟩⟩⟩⟩⟩⟩⟩⟩⟩⟩⟩⟩⟩⟩⟩
theorem lw_p32 : lw_okq (⟨"NeverSeenModel", "isBeside", "(II)Z"⟩, 59) := ⟨⟨by decide +kernel, by decide +kernel⟩, List.mem_of_getElem? (i := 748) (by decide +kernel), List.mem_of_getElem? (i := 999) (by decide +kernel), List.mem_of_getElem? (i := 1000) (by decide +kernel)⟩
theorem lw_p33 : lw_okq (⟨"NeverSeenModel", "nextTo", "(II)I"⟩, 59) := ⟨⟨by decide +kernel, by decide +kernel⟩, List.mem_of_getElem? (i := 748) (by decide +kernel), List.mem_of_getElem? (i := 1003) (by decide +kernel), List.mem_of_getElem? (i := 1004) (by decide +kernel)⟩
theorem lw_p34 : lw_okq (⟨"NeverSeenModel", "masterIn", "(I)I"⟩, 59) := ⟨⟨by decide +kernel, by decide +kernel⟩, List.mem_of_getElem? (i := 748) (by decide +kernel), List.mem_of_getElem? (i := 1011) (by decide +kernel), List.mem_of_getElem? (i := 1012) (by decide +kernel)⟩
theorem lw_p35 : lw_okq (⟨"NeverSeenModel", "longestOf", "(I)I"⟩, 59) := ⟨⟨by decide +kernel, by decide +kernel⟩, List.mem_of_getElem? (i := 748) (by decide +kernel), List.mem_of_getElem? (i := 1023) (by decide +kernel), List.mem_of_getElem? (i := 1024) (by decide +kernel)⟩
theorem lw_p36 : lw_okq (⟨"NeverSeenModel", "read", "(II)I"⟩, 59) := ⟨⟨by decide +kernel, by decide +kernel⟩, List.mem_of_getElem? (i := 748) (by decide +kernel), List.mem_of_getElem? (i := 1041) (by decide +kernel), List.mem_of_getElem? (i := 1042) (by decide +kernel)⟩
theorem lw_p37 : lw_okq (⟨"NeverSeenModel", "next", "()V"⟩, 59) := ⟨⟨by decide +kernel, by decide +kernel⟩, List.mem_of_getElem? (i := 748) (by decide +kernel), List.mem_of_getElem? (i := 1045) (by decide +kernel), List.mem_of_getElem? (i := 1046) (by decide +kernel)⟩
theorem lw_p38 : lw_okq (⟨"NeverSeenModel", "byteAt", "(I)I"⟩, 59) := ⟨⟨by decide +kernel, by decide +kernel⟩, List.mem_of_getElem? (i := 748) (by decide +kernel), List.mem_of_getElem? (i := 1049) (by decide +kernel), List.mem_of_getElem? (i := 1050) (by decide +kernel)⟩
theorem lw_p39 : lw_okq (⟨"NeverSeenModel", "isWord", "(IIIIIIII)Z"⟩, 59) := ⟨⟨by decide +kernel, by decide +kernel⟩, List.mem_of_getElem? (i := 748) (by decide +kernel), List.mem_of_getElem? (i := 1057) (by decide +kernel), List.mem_of_getElem? (i := 1058) (by decide +kernel)⟩
theorem lw_p40 : lw_okq (⟨"NeverSeenModel", "isLetter", "(II)Z"⟩, 59) := ⟨⟨by decide +kernel, by decide +kernel⟩, List.mem_of_getElem? (i := 748) (by decide +kernel), List.mem_of_getElem? (i := 1061) (by decide +kernel), List.mem_of_getElem? (i := 1062) (by decide +kernel)⟩
theorem lw_p41 : lw_okq (⟨"NeverSeenModel", "part", "(Z)I"⟩, 59) := ⟨⟨by decide +kernel, by decide +kernel⟩, List.mem_of_getElem? (i := 748) (by decide +kernel), List.mem_of_getElem? (i := 1065) (by decide +kernel), List.mem_of_getElem? (i := 1066) (by decide +kernel)⟩
theorem lw_p42 : lw_okq (⟨"NeverSeenModel", "fail", "()V"⟩, 59) := ⟨⟨by decide +kernel, by decide +kernel⟩, List.mem_of_getElem? (i := 748) (by decide +kernel), List.mem_of_getElem? (i := 1069) (by decide +kernel), List.mem_of_getElem? (i := 1070) (by decide +kernel)⟩
theorem lw_p43 : lw_okq (⟨"NeverSeenModel", "either", "()I"⟩, 59) := ⟨⟨by decide +kernel, by decide +kernel⟩, List.mem_of_getElem? (i := 748) (by decide +kernel), List.mem_of_getElem? (i := 1073) (by decide +kernel), List.mem_of_getElem? (i := 1074) (by decide +kernel)⟩
theorem lw_p44 : lw_okq (⟨"NeverSeenModel", "both", "()I"⟩, 59) := ⟨⟨by decide +kernel, by decide +kernel⟩, List.mem_of_getElem? (i := 748) (by decide +kernel), List.mem_of_getElem? (i := 1077) (by decide +kernel), List.mem_of_getElem? (i := 1078) (by decide +kernel)⟩
theorem lw_p45 : lw_okq (⟨"NeverSeenModel", "not", "()I"⟩, 59) := ⟨⟨by decide +kernel, by decide +kernel⟩, List.mem_of_getElem? (i := 748) (by decide +kernel), List.mem_of_getElem? (i := 1081) (by decide +kernel), List.mem_of_getElem? (i := 1082) (by decide +kernel)⟩
theorem lw_p46 : lw_okq (⟨"NeverSeenModel", "opens", "()Z"⟩, 59) := ⟨⟨by decide +kernel, by decide +kernel⟩, List.mem_of_getElem? (i := 748) (by decide +kernel), List.mem_of_getElem? (i := 1085) (by decide +kernel), List.mem_of_getElem? (i := 1086) (by decide +kernel)⟩
theorem lw_p47 : lw_okq (⟨"NeverSeenModel", "added", "()I"⟩, 59) := ⟨⟨by decide +kernel, by decide +kernel⟩, List.mem_of_getElem? (i := 748) (by decide +kernel), List.mem_of_getElem? (i := 1089) (by decide +kernel), List.mem_of_getElem? (i := 1090) (by decide +kernel)⟩
def lw_privs_3 : List (MethodName × Nat) := [(⟨"NeverSeenModel", "isBeside", "(II)Z"⟩, 59), (⟨"NeverSeenModel", "nextTo", "(II)I"⟩, 59), (⟨"NeverSeenModel", "masterIn", "(I)I"⟩, 59), (⟨"NeverSeenModel", "longestOf", "(I)I"⟩, 59), (⟨"NeverSeenModel", "read", "(II)I"⟩, 59), (⟨"NeverSeenModel", "next", "()V"⟩, 59), (⟨"NeverSeenModel", "byteAt", "(I)I"⟩, 59), (⟨"NeverSeenModel", "isWord", "(IIIIIIII)Z"⟩, 59), (⟨"NeverSeenModel", "isLetter", "(II)Z"⟩, 59), (⟨"NeverSeenModel", "part", "(Z)I"⟩, 59), (⟨"NeverSeenModel", "fail", "()V"⟩, 59), (⟨"NeverSeenModel", "either", "()I"⟩, 59), (⟨"NeverSeenModel", "both", "()I"⟩, 59), (⟨"NeverSeenModel", "not", "()I"⟩, 59), (⟨"NeverSeenModel", "opens", "()Z"⟩, 59), (⟨"NeverSeenModel", "added", "()I"⟩, 59)]
theorem lw_r3 : ∀ q ∈ lw_privs_3, lw_okq q := List.forall_mem_cons.mpr ⟨lw_p32, List.forall_mem_cons.mpr ⟨lw_p33, List.forall_mem_cons.mpr ⟨lw_p34, List.forall_mem_cons.mpr ⟨lw_p35, List.forall_mem_cons.mpr ⟨lw_p36, List.forall_mem_cons.mpr ⟨lw_p37, List.forall_mem_cons.mpr ⟨lw_p38, List.forall_mem_cons.mpr ⟨lw_p39, List.forall_mem_cons.mpr ⟨lw_p40, List.forall_mem_cons.mpr ⟨lw_p41, List.forall_mem_cons.mpr ⟨lw_p42, List.forall_mem_cons.mpr ⟨lw_p43, List.forall_mem_cons.mpr ⟨lw_p44, List.forall_mem_cons.mpr ⟨lw_p45, List.forall_mem_cons.mpr ⟨lw_p46, List.forall_mem_cons.mpr ⟨lw_p47, fun _ h => absurd h List.not_mem_nil⟩⟩⟩⟩⟩⟩⟩⟩⟩⟩⟩⟩⟩⟩⟩⟩
theorem lw_p48 : lw_okq (⟨"NeverSeenModel", "term", "()I"⟩, 59) := ⟨⟨by decide +kernel, by decide +kernel⟩, List.mem_of_getElem? (i := 748) (by decide +kernel), List.mem_of_getElem? (i := 1093) (by decide +kernel), List.mem_of_getElem? (i := 1094) (by decide +kernel)⟩
theorem lw_p49 : lw_okq (⟨"NeverSeenModel", "atom", "()I"⟩, 59) := ⟨⟨by decide +kernel, by decide +kernel⟩, List.mem_of_getElem? (i := 748) (by decide +kernel), List.mem_of_getElem? (i := 1097) (by decide +kernel), List.mem_of_getElem? (i := 1098) (by decide +kernel)⟩
theorem lw_p50 : lw_okq (⟨"NeverSeenModel", "isSign", "(I)Z"⟩, 59) := ⟨⟨by decide +kernel, by decide +kernel⟩, List.mem_of_getElem? (i := 748) (by decide +kernel), List.mem_of_getElem? (i := 1101) (by decide +kernel), List.mem_of_getElem? (i := 1102) (by decide +kernel)⟩
theorem lw_p51 : lw_okq (⟨"NeverSeenModel", "name", "()I"⟩, 59) := ⟨⟨by decide +kernel, by decide +kernel⟩, List.mem_of_getElem? (i := 748) (by decide +kernel), List.mem_of_getElem? (i := 1105) (by decide +kernel), List.mem_of_getElem? (i := 1106) (by decide +kernel)⟩
theorem lw_p52 : lw_okq (⟨"NeverSeenModel", "livesAll", "(I)V"⟩, 59) := ⟨⟨by decide +kernel, by decide +kernel⟩, List.mem_of_getElem? (i := 748) (by decide +kernel), List.mem_of_getElem? (i := 1120) (by decide +kernel), List.mem_of_getElem? (i := 1121) (by decide +kernel)⟩
theorem lw_p53 : lw_okq (⟨"NeverSeenModel", "startsOff", "()V"⟩, 59) := ⟨⟨by decide +kernel, by decide +kernel⟩, List.mem_of_getElem? (i := 748) (by decide +kernel), List.mem_of_getElem? (i := 1124) (by decide +kernel), List.mem_of_getElem? (i := 1125) (by decide +kernel)⟩
theorem lw_p54 : lw_okq (⟨"NeverSeenModel", "lives", "(I)V"⟩, 59) := ⟨⟨by decide +kernel, by decide +kernel⟩, List.mem_of_getElem? (i := 748) (by decide +kernel), List.mem_of_getElem? (i := 1128) (by decide +kernel), List.mem_of_getElem? (i := 1129) (by decide +kernel)⟩
theorem lw_p55 : lw_okq (⟨"NeverSeenModel", "acts", "(II)V"⟩, 59) := ⟨⟨by decide +kernel, by decide +kernel⟩, List.mem_of_getElem? (i := 748) (by decide +kernel), List.mem_of_getElem? (i := 1132) (by decide +kernel), List.mem_of_getElem? (i := 1133) (by decide +kernel)⟩
theorem lw_p56 : lw_okq (⟨"NeverSeenModel", "aimOf", "(I)I"⟩, 59) := ⟨⟨by decide +kernel, by decide +kernel⟩, List.mem_of_getElem? (i := 748) (by decide +kernel), List.mem_of_getElem? (i := 1136) (by decide +kernel), List.mem_of_getElem? (i := 1137) (by decide +kernel)⟩
theorem lw_p57 : lw_okq (⟨"NeverSeenModel", "says", "(IIII)I"⟩, 59) := ⟨⟨by decide +kernel, by decide +kernel⟩, List.mem_of_getElem? (i := 748) (by decide +kernel), List.mem_of_getElem? (i := 1140) (by decide +kernel), List.mem_of_getElem? (i := 1141) (by decide +kernel)⟩
theorem lw_p58 : lw_okq (⟨"NeverSeenModel", "worksOf", "(II)I"⟩, 59) := ⟨⟨by decide +kernel, by decide +kernel⟩, List.mem_of_getElem? (i := 748) (by decide +kernel), List.mem_of_getElem? (i := 1147) (by decide +kernel), List.mem_of_getElem? (i := 1148) (by decide +kernel)⟩
theorem lw_p59 : lw_okq (⟨"NeverSeenModel", "takesOf", "(II)I"⟩, 59) := ⟨⟨by decide +kernel, by decide +kernel⟩, List.mem_of_getElem? (i := 748) (by decide +kernel), List.mem_of_getElem? (i := 1151) (by decide +kernel), List.mem_of_getElem? (i := 1152) (by decide +kernel)⟩
theorem lw_p60 : lw_okq (⟨"NeverSeenModel", "isReady", "()Z"⟩, 59) := ⟨⟨by decide +kernel, by decide +kernel⟩, List.mem_of_getElem? (i := 748) (by decide +kernel), List.mem_of_getElem? (i := 1155) (by decide +kernel), List.mem_of_getElem? (i := 1156) (by decide +kernel)⟩
theorem lw_p61 : lw_okq (⟨"NeverSeenModel", "leftAll", "()I"⟩, 59) := ⟨⟨by decide +kernel, by decide +kernel⟩, List.mem_of_getElem? (i := 748) (by decide +kernel), List.mem_of_getElem? (i := 1159) (by decide +kernel), List.mem_of_getElem? (i := 1160) (by decide +kernel)⟩
theorem lw_p62 : lw_okq (⟨"NeverSeenModel", "orders", "(III)V"⟩, 59) := ⟨⟨by decide +kernel, by decide +kernel⟩, List.mem_of_getElem? (i := 748) (by decide +kernel), List.mem_of_getElem? (i := 1167) (by decide +kernel), List.mem_of_getElem? (i := 1168) (by decide +kernel)⟩
theorem lw_p63 : lw_okq (⟨"NeverSeenModel", "dear", "()I"⟩, 59) := ⟨⟨by decide +kernel, by decide +kernel⟩, List.mem_of_getElem? (i := 748) (by decide +kernel), List.mem_of_getElem? (i := 1171) (by decide +kernel), List.mem_of_getElem? (i := 1172) (by decide +kernel)⟩
def lw_privs_4 : List (MethodName × Nat) := [(⟨"NeverSeenModel", "term", "()I"⟩, 59), (⟨"NeverSeenModel", "atom", "()I"⟩, 59), (⟨"NeverSeenModel", "isSign", "(I)Z"⟩, 59), (⟨"NeverSeenModel", "name", "()I"⟩, 59), (⟨"NeverSeenModel", "livesAll", "(I)V"⟩, 59), (⟨"NeverSeenModel", "startsOff", "()V"⟩, 59), (⟨"NeverSeenModel", "lives", "(I)V"⟩, 59), (⟨"NeverSeenModel", "acts", "(II)V"⟩, 59), (⟨"NeverSeenModel", "aimOf", "(I)I"⟩, 59), (⟨"NeverSeenModel", "says", "(IIII)I"⟩, 59), (⟨"NeverSeenModel", "worksOf", "(II)I"⟩, 59), (⟨"NeverSeenModel", "takesOf", "(II)I"⟩, 59), (⟨"NeverSeenModel", "isReady", "()Z"⟩, 59), (⟨"NeverSeenModel", "leftAll", "()I"⟩, 59), (⟨"NeverSeenModel", "orders", "(III)V"⟩, 59), (⟨"NeverSeenModel", "dear", "()I"⟩, 59)]
theorem lw_r4 : ∀ q ∈ lw_privs_4, lw_okq q := List.forall_mem_cons.mpr ⟨lw_p48, List.forall_mem_cons.mpr ⟨lw_p49, List.forall_mem_cons.mpr ⟨lw_p50, List.forall_mem_cons.mpr ⟨lw_p51, List.forall_mem_cons.mpr ⟨lw_p52, List.forall_mem_cons.mpr ⟨lw_p53, List.forall_mem_cons.mpr ⟨lw_p54, List.forall_mem_cons.mpr ⟨lw_p55, List.forall_mem_cons.mpr ⟨lw_p56, List.forall_mem_cons.mpr ⟨lw_p57, List.forall_mem_cons.mpr ⟨lw_p58, List.forall_mem_cons.mpr ⟨lw_p59, List.forall_mem_cons.mpr ⟨lw_p60, List.forall_mem_cons.mpr ⟨lw_p61, List.forall_mem_cons.mpr ⟨lw_p62, List.forall_mem_cons.mpr ⟨lw_p63, fun _ h => absurd h List.not_mem_nil⟩⟩⟩⟩⟩⟩⟩⟩⟩⟩⟩⟩⟩⟩⟩⟩
theorem lw_p64 : lw_okq (⟨"NeverSeenModel", "isSo", "(II)Z"⟩, 59) := ⟨⟨by decide +kernel, by decide +kernel⟩, List.mem_of_getElem? (i := 748) (by decide +kernel), List.mem_of_getElem? (i := 1199) (by decide +kernel), List.mem_of_getElem? (i := 1200) (by decide +kernel)⟩
theorem lw_p65 : lw_okq (⟨"NeverSeenModel", "tries", "(III)V"⟩, 59) := ⟨⟨by decide +kernel, by decide +kernel⟩, List.mem_of_getElem? (i := 748) (by decide +kernel), List.mem_of_getElem? (i := 1203) (by decide +kernel), List.mem_of_getElem? (i := 1204) (by decide +kernel)⟩
theorem lw_p66 : lw_okq (⟨"NeverSeenModel", "draws", "(I)I"⟩, 59) := ⟨⟨by decide +kernel, by decide +kernel⟩, List.mem_of_getElem? (i := 748) (by decide +kernel), List.mem_of_getElem? (i := 1222) (by decide +kernel), List.mem_of_getElem? (i := 1223) (by decide +kernel)⟩
def lw_privs_5 : List (MethodName × Nat) := [(⟨"NeverSeenModel", "isSo", "(II)Z"⟩, 59), (⟨"NeverSeenModel", "tries", "(III)V"⟩, 59), (⟨"NeverSeenModel", "draws", "(I)I"⟩, 59)]
theorem lw_r5 : ∀ q ∈ lw_privs_5, lw_okq q := List.forall_mem_cons.mpr ⟨lw_p64, List.forall_mem_cons.mpr ⟨lw_p65, List.forall_mem_cons.mpr ⟨lw_p66, fun _ h => absurd h List.not_mem_nil⟩⟩⟩
def lw_privs : List (MethodName × Nat) := lw_privs_1 ++ (lw_privs_2 ++ (lw_privs_3 ++ (lw_privs_4 ++ (lw_privs_5))))
def lw_tbl : List Cond := k2_sels lw_privs ++ tables_1
theorem lw_privs_ok : ∀ q ∈ lw_privs, lw_okq q := by
  show ∀ q ∈ lw_privs_1 ++ (lw_privs_2 ++ (lw_privs_3 ++ (lw_privs_4 ++ (lw_privs_5)))), lw_okq q
  exact List.forall_mem_append.mpr ⟨lw_r1, List.forall_mem_append.mpr ⟨lw_r2, List.forall_mem_append.mpr ⟨lw_r3, List.forall_mem_append.mpr ⟨lw_r4, lw_r5⟩⟩⟩⟩
def RX0 : String := "NeverSeen$Day"
def TX0 : u_T := fun k => match k with
  | 0 => ("NeverSeen$Day", "house", "LNeverSeen$House;", false)
  | 1 => ("NeverSeen$Day", "texts", "[LNeverSeen$Wording;", true)
  | 2 => ("NeverSeen$Day", "ways", "LNeverSeen$Ways;", true)
  | 3 => ("NeverSeen$Day", "names", "[I", true)
  | 4 => ("NeverSeen$Day", "stack", "[I", true)
  | 5 => ("NeverSeen$Day", "room", "[I", true)
  | 6 => ("NeverSeen$Day", "to", "[I", true)
  | 7 => ("NeverSeen$Day", "onWay", "[I", true)
  | 8 => ("NeverSeen$Day", "place", "[I", true)
  | 9 => ("NeverSeen$Day", "seen", "[I", true)
  | 10 => ("NeverSeen$Day", "waited", "[I", true)
  | 11 => ("NeverSeen$Day", "work", "[I", true)
  | 12 => ("NeverSeen$Day", "asked", "I", false)
  | 13 => ("NeverSeen$Day", "shillings", "I", false)
  | _ => ("NeverSeen$Day", "ready", "I", false)
def tyX0 : Nat → FieldType := fun k => match k with
  | 0 => .object "NeverSeen$House"
  | 1 => .array (.object "NeverSeen$Wording")
  | 2 => .object "NeverSeen$Ways"
  | 3 => .array .int
  | 4 => .array .int
  | 5 => .array .int
  | 6 => .array .int
  | 7 => .array .int
  | 8 => .array .int
  | 9 => .array .int
  | 10 => .array .int
  | 11 => .array .int
  | 12 => .int
  | 13 => .int
  | _ => .int
theorem nmX0 : ∀ a, a < 15 → ∀ b, b < 15 → a ≠ b → (TX0 a).2.1 ≠ (TX0 b).2.1 := by decide +kernel
theorem tyX0_ok : ∀ k, k < 15 → parseFieldDescriptor (TX0 k).2.2.1 = some (tyX0 k) := by decide +kernel
abbrev cX0_init : ByteArray := prog_2_method_1_code
def yX0_init : MethodName := ⟨RX0, "<init>", "(LNeverSeen$House;[LNeverSeen$Wording;)V"⟩
abbrev cX0_run : ByteArray := prog_2_method_2_code
def yX0_run : MethodName := ⟨RX0, "run", "(LNeverSeen$House;I)V"⟩
abbrev cX0_start : ByteArray := prog_2_method_3_code
def yX0_start : MethodName := ⟨RX0, "start", "(LNeverSeen$House;)V"⟩
abbrev cX0_pass : ByteArray := prog_2_method_4_code
def yX0_pass : MethodName := ⟨RX0, "pass", "(I)V"⟩
abbrev cX0_turn : ByteArray := prog_2_method_5_code
def yX0_turn : MethodName := ⟨RX0, "turn", "(III)V"⟩
abbrev cX0_tells : ByteArray := prog_2_method_6_code
def yX0_tells : MethodName := ⟨RX0, "tells", "(IIII)I"⟩
abbrev cX0_othersWith : ByteArray := prog_2_method_7_code
def yX0_othersWith : MethodName := ⟨RX0, "othersWith", "(I)I"⟩
abbrev cX0_isAllDone : ByteArray := prog_2_method_8_code
def yX0_isAllDone : MethodName := ⟨RX0, "isAllDone", "()Z"⟩
abbrev cX0_workLeft : ByteArray := prog_2_method_9_code
def yX0_workLeft : MethodName := ⟨RX0, "workLeft", "()I"⟩
abbrev cX0_dear : ByteArray := prog_2_method_10_code
def yX0_dear : MethodName := ⟨RX0, "dear", "()I"⟩
abbrev cX0_isAnySeen : ByteArray := prog_2_method_11_code
def yX0_isAnySeen : MethodName := ⟨RX0, "isAnySeen", "()Z"⟩
abbrev cX0_ofMaid : ByteArray := prog_2_method_12_code
def yX0_ofMaid : MethodName := ⟨RX0, "ofMaid", "(II)I"⟩
def RX1 : String := "NeverSeen$House"
def TX1 : u_T := fun k => match k with
  | 0 => ("NeverSeen$House", "stairs", "I", false)
  | 1 => ("NeverSeen$House", "stays", "I", false)
  | 2 => ("NeverSeen$House", "maids", "I", false)
  | 3 => ("NeverSeen$House", "rule", "I", false)
  | 4 => ("NeverSeen$House", "stayRoom", "[I", true)
  | 5 => ("NeverSeen$House", "stayMinutes", "[I", true)
  | 6 => ("NeverSeen$House", "work", "[I", true)
  | _ => ("NeverSeen$House", "maid", "[LNeverSeen$Maid;", true)
def tyX1 : Nat → FieldType := fun k => match k with
  | 0 => .int
  | 1 => .int
  | 2 => .int
  | 3 => .int
  | 4 => .array .int
  | 5 => .array .int
  | 6 => .array .int
  | _ => .array (.object "NeverSeen$Maid")
theorem nmX1 : ∀ a, a < 8 → ∀ b, b < 8 → a ≠ b → (TX1 a).2.1 ≠ (TX1 b).2.1 := by decide +kernel
theorem tyX1_ok : ∀ k, k < 8 → parseFieldDescriptor (TX1 k).2.2.1 = some (tyX1 k) := by decide +kernel
abbrev cX1_init : ByteArray := prog_3_method_1_code
def yX1_init : MethodName := ⟨RX1, "<init>", "()V"⟩
abbrev cX1_become : ByteArray := prog_3_method_2_code
def yX1_become : MethodName := ⟨RX1, "become", "(LNeverSeen$House;)V"⟩
abbrev cX1_put : ByteArray := prog_3_method_3_code
def yX1_put : MethodName := ⟨RX1, "put", "(III)V"⟩
abbrev cX1_leaveOut : ByteArray := prog_3_method_4_code
def yX1_leaveOut : MethodName := ⟨RX1, "leaveOut", "(I)V"⟩
abbrev cX1_masterIn : ByteArray := prog_3_method_5_code
def yX1_masterIn : MethodName := ⟨RX1, "masterIn", "(I)I"⟩
abbrev cX1_draw : ByteArray := prog_3_method_6_code
def yX1_draw : MethodName := ⟨RX1, "draw", "(I)V"⟩
def RX2 : String := "NeverSeen$Maid"
def TX2 : u_T := fun k => match k with
  | 0 => ("NeverSeen$Maid", "kind", "I", false)
  | 1 => ("NeverSeen$Maid", "number", "I", false)
  | 2 => ("NeverSeen$Maid", "begins", "I", false)
  | 3 => ("NeverSeen$Maid", "listed", "I", false)
  | _ => ("NeverSeen$Maid", "list", "[I", true)
def tyX2 : Nat → FieldType := fun k => match k with
  | 0 => .int
  | 1 => .int
  | 2 => .int
  | 3 => .int
  | _ => .array .int
theorem nmX2 : ∀ a, a < 5 → ∀ b, b < 5 → a ≠ b → (TX2 a).2.1 ≠ (TX2 b).2.1 := by decide +kernel
theorem tyX2_ok : ∀ k, k < 5 → parseFieldDescriptor (TX2 k).2.2.1 = some (tyX2 k) := by decide +kernel
abbrev cX2_init : ByteArray := prog_4_method_1_code
def yX2_init : MethodName := ⟨RX2, "<init>", "()V"⟩
abbrev cX2_arrive : ByteArray := prog_4_method_2_code
def yX2_arrive : MethodName := ⟨RX2, "arrive", "(III)V"⟩
abbrev cX2_become : ByteArray := prog_4_method_3_code
def yX2_become : MethodName := ⟨RX2, "become", "(LNeverSeen$Maid;)V"⟩
abbrev cX2_roomListed : ByteArray := prog_4_method_4_code
def yX2_roomListed : MethodName := ⟨RX2, "roomListed", "(I)I"⟩
abbrev cX2_isOfKind : ByteArray := prog_4_method_5_code
def yX2_isOfKind : MethodName := ⟨RX2, "isOfKind", "(I)Z"⟩
abbrev cX2_takes : ByteArray := prog_4_method_6_code
def yX2_takes : MethodName := ⟨RX2, "takes", "(I)I"⟩
abbrev cX2_works : ByteArray := prog_4_method_7_code
def yX2_works : MethodName := ⟨RX2, "works", "(I)I"⟩
abbrev cX2_dares : ByteArray := prog_4_method_8_code
def yX2_dares : MethodName := ⟨RX2, "dares", "(I)Z"⟩
def RX3 : String := "NeverSeen$Reader"
def TX3 : u_T := fun k => match k with
  | 0 => ("NeverSeen$Reader", "tape", "[I", true)
  | 1 => ("NeverSeen$Reader", "size", "I", false)
  | 2 => ("NeverSeen$Reader", "at", "I", false)
  | 3 => ("NeverSeen$Reader", "behind", "I", false)
  | 4 => ("NeverSeen$Reader", "token", "I", false)
  | 5 => ("NeverSeen$Reader", "number", "I", false)
  | 6 => ("NeverSeen$Reader", "fault", "I", false)
  | 7 => ("NeverSeen$Reader", "code", "[I", true)
  | 8 => ("NeverSeen$Reader", "ends", "[I", true)
  | _ => ("NeverSeen$Reader", "written", "I", false)
def tyX3 : Nat → FieldType := fun k => match k with
  | 0 => .array .int
  | 1 => .int
  | 2 => .int
  | 3 => .int
  | 4 => .int
  | 5 => .int
  | 6 => .int
  | 7 => .array .int
  | 8 => .array .int
  | _ => .int
theorem nmX3 : ∀ a, a < 10 → ∀ b, b < 10 → a ≠ b → (TX3 a).2.1 ≠ (TX3 b).2.1 := by decide +kernel
theorem tyX3_ok : ∀ k, k < 10 → parseFieldDescriptor (TX3 k).2.2.1 = some (tyX3 k) := by decide +kernel
abbrev cX3_init : ByteArray := prog_5_method_1_code
def yX3_init : MethodName := ⟨RX3, "<init>", "()V"⟩
abbrev cX3_add : ByteArray := prog_5_method_2_code
def yX3_add : MethodName := ⟨RX3, "add", "(I)Z"⟩
abbrev cX3_read : ByteArray := prog_5_method_3_code
def yX3_read : MethodName := ⟨RX3, "read", "(LNeverSeen$Wording;)I"⟩
abbrev cX3_readEither : ByteArray := prog_5_method_4_code
def yX3_readEither : MethodName := ⟨RX3, "readEither", "(I)V"⟩
abbrev cX3_readBoth : ByteArray := prog_5_method_5_code
def yX3_readBoth : MethodName := ⟨RX3, "readBoth", "(I)V"⟩
abbrev cX3_readNot : ByteArray := prog_5_method_6_code
def yX3_readNot : MethodName := ⟨RX3, "readNot", "(I)V"⟩
abbrev cX3_readSum : ByteArray := prog_5_method_7_code
def yX3_readSum : MethodName := ⟨RX3, "readSum", "(I)V"⟩
abbrev cX3_readTerm : ByteArray := prog_5_method_8_code
def yX3_readTerm : MethodName := ⟨RX3, "readTerm", "(I)V"⟩
abbrev cX3_readOne : ByteArray := prog_5_method_9_code
def yX3_readOne : MethodName := ⟨RX3, "readOne", "(I)V"⟩
abbrev cX3_expect : ByteArray := prog_5_method_10_code
def yX3_expect : MethodName := ⟨RX3, "expect", "(I)V"⟩
abbrev cX3_refuse : ByteArray := prog_5_method_11_code
def yX3_refuse : MethodName := ⟨RX3, "refuse", "()V"⟩
abbrev cX3_write : ByteArray := prog_5_method_12_code
def yX3_write : MethodName := ⟨RX3, "write", "(I)V"⟩
abbrev cX3_advance : ByteArray := prog_5_method_13_code
def yX3_advance : MethodName := ⟨RX3, "advance", "()V"⟩
abbrev cX3_takeWord : ByteArray := prog_5_method_14_code
def yX3_takeWord : MethodName := ⟨RX3, "takeWord", "()V"⟩
abbrev cX3_takeNumber : ByteArray := prog_5_method_15_code
def yX3_takeNumber : MethodName := ⟨RX3, "takeNumber", "()V"⟩
abbrev cX3_wordOnTape : ByteArray := prog_5_method_16_code
def yX3_wordOnTape : MethodName := ⟨RX3, "wordOnTape", "()I"⟩
abbrev cX3_isOnTape : ByteArray := prog_5_method_17_code
def yX3_isOnTape : MethodName := ⟨RX3, "isOnTape", "(II)Z"⟩
abbrev cX3_isLetter : ByteArray := prog_5_method_18_code
def yX3_isLetter : MethodName := ⟨RX3, "isLetter", "(I)Z"⟩
abbrev cX3_isDigit : ByteArray := prog_5_method_19_code
def yX3_isDigit : MethodName := ⟨RX3, "isDigit", "(I)Z"⟩
abbrev cX3_isSign : ByteArray := prog_5_method_20_code
def yX3_isSign : MethodName := ⟨RX3, "isSign", "(I)Z"⟩
def RX4 : String := "NeverSeen$Sheet"
def TX4 : u_T := fun k => match k with
  | 0 => ("NeverSeen$Sheet", "sort", "I", false)
  | 1 => ("NeverSeen$Sheet", "size", "I", false)
  | _ => ("NeverSeen$Sheet", "items", "[I", true)
def tyX4 : Nat → FieldType := fun k => match k with
  | 0 => .int
  | 1 => .int
  | _ => .array .int
theorem nmX4 : ∀ a, a < 3 → ∀ b, b < 3 → a ≠ b → (TX4 a).2.1 ≠ (TX4 b).2.1 := by decide +kernel
theorem tyX4_ok : ∀ k, k < 3 → parseFieldDescriptor (TX4 k).2.2.1 = some (tyX4 k) := by decide +kernel
abbrev cX4_init : ByteArray := prog_6_method_1_code
def yX4_init : MethodName := ⟨RX4, "<init>", "()V"⟩
abbrev cX4_isMissing : ByteArray := prog_6_method_2_code
def yX4_isMissing : MethodName := ⟨RX4, "isMissing", "()Z"⟩
abbrev cX4_become : ByteArray := prog_6_method_3_code
def yX4_become : MethodName := ⟨RX4, "become", "(II)V"⟩
abbrev cX4_put : ByteArray := prog_6_method_4_code
def yX4_put : MethodName := ⟨RX4, "put", "(II)V"⟩
abbrev cX4_has : ByteArray := prog_6_method_5_code
def yX4_has : MethodName := ⟨RX4, "has", "(II)Z"⟩
def RX5 : String := "NeverSeen$Ways"
def TX5 : u_T := fun k => match k with
  | 0 => ("NeverSeen$Ways", "next", "[I", true)
  | _ => ("NeverSeen$Ways", "laidFor", "I", false)
def tyX5 : Nat → FieldType := fun k => match k with
  | 0 => .array .int
  | _ => .int
theorem nmX5 : ∀ a, a < 2 → ∀ b, b < 2 → a ≠ b → (TX5 a).2.1 ≠ (TX5 b).2.1 := by decide +kernel
theorem tyX5_ok : ∀ k, k < 2 → parseFieldDescriptor (TX5 k).2.2.1 = some (tyX5 k) := by decide +kernel
abbrev cX5_init : ByteArray := prog_7_method_1_code
def yX5_init : MethodName := ⟨RX5, "<init>", "()V"⟩
abbrev cX5_far : ByteArray := prog_7_method_2_code
def yX5_far : MethodName := ⟨RX5, "far", "(III)I"⟩
abbrev cX5_nextRoom : ByteArray := prog_7_method_3_code
def yX5_nextRoom : MethodName := ⟨RX5, "nextRoom", "(III)I"⟩
abbrev cX5_lay : ByteArray := prog_7_method_4_code
def yX5_lay : MethodName := ⟨RX5, "lay", "(I)V"⟩
abbrev cX5_nextLaid : ByteArray := prog_7_method_5_code
def yX5_nextLaid : MethodName := ⟨RX5, "nextLaid", "(II)I"⟩
def RX6 : String := "NeverSeen$Wording"
def TX6 : u_T := fun k => match k with
  | 0 => ("NeverSeen$Wording", "code", "[I", true)
  | _ => ("NeverSeen$Wording", "ends", "[I", true)
def tyX6 : Nat → FieldType := fun k => match k with
  | 0 => .array .int
  | _ => .array .int
theorem nmX6 : ∀ a, a < 2 → ∀ b, b < 2 → a ≠ b → (TX6 a).2.1 ≠ (TX6 b).2.1 := by decide +kernel
theorem tyX6_ok : ∀ k, k < 2 → parseFieldDescriptor (TX6 k).2.2.1 = some (tyX6 k) := by decide +kernel
abbrev cX6_init : ByteArray := prog_8_method_1_code
def yX6_init : MethodName := ⟨RX6, "<init>", "()V"⟩
abbrev cX6_become : ByteArray := prog_8_method_2_code
def yX6_become : MethodName := ⟨RX6, "become", "([I[I)V"⟩
abbrev cX6_value : ByteArray := prog_8_method_3_code
def yX6_value : MethodName := ⟨RX6, "value", "(I[I[I)I"⟩
abbrev cX6_joined : ByteArray := prog_8_method_4_code
def yX6_joined : MethodName := ⟨RX6, "joined", "(III)I"⟩
def RX7 : String := "NeverSeen"
def TX7 : u_T := fun k => match k with
  | 0 => ("NeverSeen", "house", "LNeverSeen$House;", true)
  | 1 => ("NeverSeen", "kept", "LNeverSeen$House;", true)
  | 2 => ("NeverSeen", "would", "LNeverSeen$House;", true)
  | 3 => ("NeverSeen", "imaged", "Z", false)
  | 4 => ("NeverSeen", "reader", "LNeverSeen$Reader;", true)
  | 5 => ("NeverSeen", "texts", "[LNeverSeen$Wording;", true)
  | 6 => ("NeverSeen", "textCount", "I", false)
  | 7 => ("NeverSeen", "day", "LNeverSeen$Day;", true)
  | 8 => ("NeverSeen", "sheets", "[LNeverSeen$Sheet;", true)
  | _ => ("NeverSeen", "order", "[I", true)
def tyX7 : Nat → FieldType := fun k => match k with
  | 0 => .object "NeverSeen$House"
  | 1 => .object "NeverSeen$House"
  | 2 => .object "NeverSeen$House"
  | 3 => .boolean
  | 4 => .object "NeverSeen$Reader"
  | 5 => .array (.object "NeverSeen$Wording")
  | 6 => .int
  | 7 => .object "NeverSeen$Day"
  | 8 => .array (.object "NeverSeen$Sheet")
  | _ => .array .int
theorem nmX7 : ∀ a, a < 10 → ∀ b, b < 10 → a ≠ b → (TX7 a).2.1 ≠ (TX7 b).2.1 := by decide +kernel
theorem tyX7_ok : ∀ k, k < 10 → parseFieldDescriptor (TX7 k).2.2.1 = some (tyX7 k) := by decide +kernel
abbrev cX7_init : ByteArray := prog_1_method_1_code
def yX7_init : MethodName := ⟨RX7, "<init>", "()V"⟩
abbrev cX7_set : ByteArray := prog_1_method_2_code
def yX7_set : MethodName := ⟨RX7, "set", "(III)I"⟩
abbrev cX7_stay : ByteArray := prog_1_method_3_code
def yX7_stay : MethodName := ⟨RX7, "stay", "(II)I"⟩
abbrev cX7_maid : ByteArray := prog_1_method_4_code
def yX7_maid : MethodName := ⟨RX7, "maid", "(III)I"⟩
abbrev cX7_list : ByteArray := prog_1_method_5_code
def yX7_list : MethodName := ⟨RX7, "list", "(II)I"⟩
abbrev cX7_clear : ByteArray := prog_1_method_6_code
def yX7_clear : MethodName := ⟨RX7, "clear", "(I)I"⟩
abbrev cX7_told : ByteArray := prog_1_method_7_code
def yX7_told : MethodName := ⟨RX7, "told", "(II)I"⟩
abbrev cX7_toldOfMaid : ByteArray := prog_1_method_8_code
def yX7_toldOfMaid : MethodName := ⟨RX7, "toldOfMaid", "(LNeverSeen$Maid;I)I"⟩
abbrev cX7_way : ByteArray := prog_1_method_9_code
def yX7_way : MethodName := ⟨RX7, "way", "(III)I"⟩
abbrev cX7_feed : ByteArray := prog_1_method_10_code
def yX7_feed : MethodName := ⟨RX7, "feed", "(I)I"⟩
abbrev cX7_text : ByteArray := prog_1_method_11_code
def yX7_text : MethodName := ⟨RX7, "text", "()I"⟩
abbrev cX7_force : ByteArray := prog_1_method_12_code
def yX7_force : MethodName := ⟨RX7, "force", "(I)I"⟩
abbrev cX7_master : ByteArray := prog_1_method_13_code
def yX7_master : MethodName := ⟨RX7, "master", "(I)I"⟩
abbrev cX7_free : ByteArray := prog_1_method_14_code
def yX7_free : MethodName := ⟨RX7, "free", "(II)I"⟩
abbrev cX7_longest : ByteArray := prog_1_method_15_code
def yX7_longest : MethodName := ⟨RX7, "longest", "(II)I"⟩
abbrev cX7_never : ByteArray := prog_1_method_16_code
def yX7_never : MethodName := ⟨RX7, "never", "(I)I"⟩
abbrev cX7_longestFree : ByteArray := prog_1_method_17_code
def yX7_longestFree : MethodName := ⟨RX7, "longestFree", "(II)I"⟩
abbrev cX7_morning : ByteArray := prog_1_method_18_code
def yX7_morning : MethodName := ⟨RX7, "morning", "(II)I"⟩
abbrev cX7_isAskedOfMorning : ByteArray := prog_1_method_19_code
def yX7_isAskedOfMorning : MethodName := ⟨RX7, "isAskedOfMorning", "(I)Z"⟩
abbrev cX7_best : ByteArray := prog_1_method_20_code
def yX7_best : MethodName := ⟨RX7, "best", "(II)I"⟩
abbrev cX7_firstOrder : ByteArray := prog_1_method_21_code
def yX7_firstOrder : MethodName := ⟨RX7, "firstOrder", "(I)I"⟩
abbrev cX7_nextOrder : ByteArray := prog_1_method_22_code
def yX7_nextOrder : MethodName := ⟨RX7, "nextOrder", "(I)V"⟩
abbrev cX7_swapPlaces : ByteArray := prog_1_method_23_code
def yX7_swapPlaces : MethodName := ⟨RX7, "swapPlaces", "(II)V"⟩
abbrev cX7_begin : ByteArray := prog_1_method_24_code
def yX7_begin : MethodName := ⟨RX7, "begin", "(II)I"⟩
abbrev cX7_home : ByteArray := prog_1_method_25_code
def yX7_home : MethodName := ⟨RX7, "home", "(I)I"⟩
abbrev cX7_stairs : ByteArray := prog_1_method_26_code
def yX7_stairs : MethodName := ⟨RX7, "stairs", "()I"⟩
abbrev cX7_from : ByteArray := prog_1_method_27_code
def yX7_from : MethodName := ⟨RX7, "from", "(II)I"⟩
abbrev cX7_isTold : ByteArray := prog_1_method_28_code
def yX7_isTold : MethodName := ⟨RX7, "isTold", "(LNeverSeen$Sheet;I)Z"⟩
abbrev cX7_door : ByteArray := prog_1_method_29_code
def yX7_door : MethodName := ⟨RX7, "door", "(III)I"⟩
abbrev cX7_doorChoices : ByteArray := prog_1_method_30_code
def yX7_doorChoices : MethodName := ⟨RX7, "doorChoices", "(I)I"⟩
abbrev cX7_isSeenFromDoor : ByteArray := prog_1_method_31_code
def yX7_isSeenFromDoor : MethodName := ⟨RX7, "isSeenFromDoor", "(LNeverSeen$Sheet;I)Z"⟩
abbrev cX7_film : ByteArray := prog_1_method_32_code
def yX7_film : MethodName := ⟨RX7, "film", "(III)I"⟩
abbrev cX7_drawn : ByteArray := prog_1_method_33_code
def yX7_drawn : MethodName := ⟨RX7, "drawn", "(I)I"⟩
abbrev cX7_chance : ByteArray := prog_1_method_34_code
def yX7_chance : MethodName := ⟨RX7, "chance", "(III)J"⟩
abbrev cX7_inLowestTerms : ByteArray := prog_1_method_35_code
def yX7_inLowestTerms : MethodName := ⟨RX7, "inLowestTerms", "(III)I"⟩
abbrev cX7_image : ByteArray := prog_1_method_36_code
def yX7_image : MethodName := ⟨RX7, "image", "()I"⟩
abbrev cX7_back : ByteArray := prog_1_method_37_code
def yX7_back : MethodName := ⟨RX7, "back", "()I"⟩
abbrev cX7_count : ByteArray := prog_1_method_38_code
def yX7_count : MethodName := ⟨RX7, "count", "(I)I"⟩
abbrev cX7_sheet : ByteArray := prog_1_method_39_code
def yX7_sheet : MethodName := ⟨RX7, "sheet", "(III)I"⟩
abbrev cX7_cell : ByteArray := prog_1_method_40_code
def yX7_cell : MethodName := ⟨RX7, "cell", "(III)I"⟩
abbrev cX7_copy : ByteArray := prog_1_method_41_code
def yX7_copy : MethodName := ⟨RX7, "copy", "(IIIII)I"⟩
abbrev cX7_maids : ByteArray := prog_1_method_42_code
def yX7_maids : MethodName := ⟨RX7, "maids", "(IIII)I"⟩
abbrev cX7_taken : ByteArray := prog_1_method_43_code
def yX7_taken : MethodName := ⟨RX7, "taken", "(II)I"⟩
abbrev cX7_within : ByteArray := prog_1_method_44_code
def yX7_within : MethodName := ⟨RX7, "within", "(II)Z"⟩
abbrev cX7_sum : ByteArray := prog_1_method_45_code
def yX7_sum : MethodName := ⟨RX7, "sum", "([I)I"⟩
def RX8 : String := "NeverSeenModel"
def TX8 : u_T := fun k => match k with
  | 0 => ("NeverSeenModel", "thrown", "I", false)
  | 1 => ("NeverSeenModel", "texts", "[I", true)
  | 2 => ("NeverSeenModel", "textSize", "[I", true)
  | 3 => ("NeverSeenModel", "textCount", "I", false)
  | 4 => ("NeverSeenModel", "rule", "I", false)
  | 5 => ("NeverSeenModel", "tape", "[I", true)
  | 6 => ("NeverSeenModel", "taped", "I", false)
  | 7 => ("NeverSeenModel", "stairWays", "I", false)
  | 8 => ("NeverSeenModel", "works", "[I", true)
  | 9 => ("NeverSeenModel", "stayRoom", "[I", true)
  | 10 => ("NeverSeenModel", "stayLong", "[I", true)
  | 11 => ("NeverSeenModel", "stayMany", "I", false)
  | 12 => ("NeverSeenModel", "kinds", "[I", true)
  | 13 => ("NeverSeenModel", "numbers", "[I", true)
  | 14 => ("NeverSeenModel", "begins", "[I", true)
  | 15 => ("NeverSeenModel", "lists", "[I", true)
  | 16 => ("NeverSeenModel", "listMany", "[I", true)
  | 17 => ("NeverSeenModel", "maidMany", "I", false)
  | 18 => ("NeverSeenModel", "absent", "I", false)
  | 19 => ("NeverSeenModel", "farTable", "[I", true)
  | 20 => ("NeverSeenModel", "longestAt", "I", false)
  | 21 => ("NeverSeenModel", "ofMinute", "I", false)
  | 22 => ("NeverSeenModel", "ofRoom", "I", false)
  | 23 => ("NeverSeenModel", "ofLeft", "I", false)
  | 24 => ("NeverSeenModel", "ofNumber", "I", false)
  | 25 => ("NeverSeenModel", "ofBeside", "I", false)
  | 26 => ("NeverSeenModel", "ofMaids", "I", false)
  | 27 => ("NeverSeenModel", "from", "I", false)
  | 28 => ("NeverSeenModel", "size", "I", false)
  | 29 => ("NeverSeenModel", "here", "I", false)
  | 30 => ("NeverSeenModel", "token", "I", false)
  | 31 => ("NeverSeenModel", "tokenAt", "I", false)
  | 32 => ("NeverSeenModel", "tokenWorth", "J", false)
  | 33 => ("NeverSeenModel", "open", "I", false)
  | 34 => ("NeverSeenModel", "bad", "Z", false)
  | 35 => ("NeverSeenModel", "fault", "I", false)
  | 36 => ("NeverSeenModel", "roomNow", "[I", true)
  | 37 => ("NeverSeenModel", "wayLeft", "[I", true)
  | 38 => ("NeverSeenModel", "wayTo", "[I", true)
  | 39 => ("NeverSeenModel", "listAt", "[I", true)
  | 40 => ("NeverSeenModel", "seenFor", "[I", true)
  | 41 => ("NeverSeenModel", "waited", "[I", true)
  | 42 => ("NeverSeenModel", "leftNow", "[I", true)
  | 43 => ("NeverSeenModel", "shillings", "I", false)
  | 44 => ("NeverSeenModel", "ready", "I", false)
  | 45 => ("NeverSeenModel", "listWas", "[I", true)
  | 46 => ("NeverSeenModel", "bestDear", "I", false)
  | 47 => ("NeverSeenModel", "bestDigits", "I", false)
  | 48 => ("NeverSeenModel", "longWas", "[I", true)
  | 49 => ("NeverSeenModel", "houseKept", "[I", true)
  | 50 => ("NeverSeenModel", "maidsKept", "[I", true)
  | 51 => ("NeverSeenModel", "manyKept", "I", false)
  | 52 => ("NeverSeenModel", "stairsKept", "I", false)
  | 53 => ("NeverSeenModel", "staysKept", "I", false)
  | 54 => ("NeverSeenModel", "ruleKept", "I", false)
  | 55 => ("NeverSeenModel", "isThere", "[Z", true)
  | 56 => ("NeverSeenModel", "sorts", "[I", true)
  | 57 => ("NeverSeenModel", "sheetSize", "[I", true)
  | _ => ("NeverSeenModel", "items", "[I", true)
def tyX8 : Nat → FieldType := fun k => match k with
  | 0 => .int
  | 1 => .array .int
  | 2 => .array .int
  | 3 => .int
  | 4 => .int
  | 5 => .array .int
  | 6 => .int
  | 7 => .int
  | 8 => .array .int
  | 9 => .array .int
  | 10 => .array .int
  | 11 => .int
  | 12 => .array .int
  | 13 => .array .int
  | 14 => .array .int
  | 15 => .array .int
  | 16 => .array .int
  | 17 => .int
  | 18 => .int
  | 19 => .array .int
  | 20 => .int
  | 21 => .int
  | 22 => .int
  | 23 => .int
  | 24 => .int
  | 25 => .int
  | 26 => .int
  | 27 => .int
  | 28 => .int
  | 29 => .int
  | 30 => .int
  | 31 => .int
  | 32 => .long
  | 33 => .int
  | 34 => .boolean
  | 35 => .int
  | 36 => .array .int
  | 37 => .array .int
  | 38 => .array .int
  | 39 => .array .int
  | 40 => .array .int
  | 41 => .array .int
  | 42 => .array .int
  | 43 => .int
  | 44 => .int
  | 45 => .array .int
  | 46 => .int
  | 47 => .int
  | 48 => .array .int
  | 49 => .array .int
  | 50 => .array .int
  | 51 => .int
  | 52 => .int
  | 53 => .int
  | 54 => .int
  | 55 => .array .boolean
  | 56 => .array .int
  | 57 => .array .int
  | _ => .array .int
theorem nmX8 : ∀ a, a < 59 → ∀ b, b < 59 → a ≠ b → (TX8 a).2.1 ≠ (TX8 b).2.1 := by decide +kernel
theorem tyX8_ok : ∀ k, k < 59 → parseFieldDescriptor (TX8 k).2.2.1 = some (tyX8 k) := by decide +kernel
abbrev cX8_in : ByteArray := prog_10_method_2_code
def yX8_in : MethodName := ⟨RX8, "in", "(JJJ)Z"⟩
abbrev cX8_within : ByteArray := prog_10_method_3_code
def yX8_within : MethodName := ⟨RX8, "within", "(III)I"⟩
abbrev cX8_init : ByteArray := prog_10_method_4_code
def yX8_init : MethodName := ⟨RX8, "<init>", "()V"⟩
abbrev cX8_spell : ByteArray := prog_10_method_5_code
def yX8_spell : MethodName := ⟨RX8, "spell", "(IIIIIIIII)V"⟩
abbrev cX8_isRoom : ByteArray := prog_10_method_6_code
def yX8_isRoom : MethodName := ⟨RX8, "isRoom", "(I)Z"⟩
abbrev cX8_isMaid : ByteArray := prog_10_method_7_code
def yX8_isMaid : MethodName := ⟨RX8, "isMaid", "(I)Z"⟩
abbrev cX8_isStay : ByteArray := prog_10_method_8_code
def yX8_isStay : MethodName := ⟨RX8, "isStay", "(I)Z"⟩
abbrev cX8_isOf : ByteArray := prog_10_method_9_code
def yX8_isOf : MethodName := ⟨RX8, "isOf", "(II)Z"⟩
abbrev cX8_set : ByteArray := prog_10_method_10_code
def yX8_set : MethodName := ⟨RX8, "set", "(III)I"⟩
abbrev cX8_lays : ByteArray := prog_10_method_11_code
def yX8_lays : MethodName := ⟨RX8, "lays", "(III)V"⟩
abbrev cX8_stay : ByteArray := prog_10_method_12_code
def yX8_stay : MethodName := ⟨RX8, "stay", "(II)I"⟩
abbrev cX8_maid : ByteArray := prog_10_method_13_code
def yX8_maid : MethodName := ⟨RX8, "maid", "(III)I"⟩
abbrev cX8_list : ByteArray := prog_10_method_14_code
def yX8_list : MethodName := ⟨RX8, "list", "(II)I"⟩
abbrev cX8_clear : ByteArray := prog_10_method_15_code
def yX8_clear : MethodName := ⟨RX8, "clear", "(I)I"⟩
abbrev cX8_told : ByteArray := prog_10_method_16_code
def yX8_told : MethodName := ⟨RX8, "told", "(II)I"⟩
abbrev cX8_isBeside : ByteArray := prog_10_method_17_code
def yX8_isBeside : MethodName := ⟨RX8, "isBeside", "(II)Z"⟩
abbrev cX8_gathers : ByteArray := prog_10_method_18_code
def yX8_gathers : MethodName := ⟨RX8, "gathers", "()V"⟩
abbrev cX8_nextTo : ByteArray := prog_10_method_19_code
def yX8_nextTo : MethodName := ⟨RX8, "nextTo", "(II)I"⟩
abbrev cX8_way : ByteArray := prog_10_method_20_code
def yX8_way : MethodName := ⟨RX8, "way", "(III)I"⟩
abbrev cX8_masterIn : ByteArray := prog_10_method_21_code
def yX8_masterIn : MethodName := ⟨RX8, "masterIn", "(I)I"⟩
abbrev cX8_master : ByteArray := prog_10_method_22_code
def yX8_master : MethodName := ⟨RX8, "master", "(I)I"⟩
abbrev cX8_free : ByteArray := prog_10_method_23_code
def yX8_free : MethodName := ⟨RX8, "free", "(II)I"⟩
abbrev cX8_longestOf : ByteArray := prog_10_method_24_code
def yX8_longestOf : MethodName := ⟨RX8, "longestOf", "(I)I"⟩
abbrev cX8_longest : ByteArray := prog_10_method_25_code
def yX8_longest : MethodName := ⟨RX8, "longest", "(II)I"⟩
abbrev cX8_never : ByteArray := prog_10_method_26_code
def yX8_never : MethodName := ⟨RX8, "never", "(I)I"⟩
abbrev cX8_feed : ByteArray := prog_10_method_27_code
def yX8_feed : MethodName := ⟨RX8, "feed", "(I)I"⟩
abbrev cX8_byteAt : ByteArray := prog_10_method_28_code
def yX8_byteAt : MethodName := ⟨RX8, "byteAt", "(I)I"⟩
abbrev cX8_next : ByteArray := prog_10_method_29_code
def yX8_next : MethodName := ⟨RX8, "next", "()V"⟩
abbrev cX8_fail : ByteArray := prog_10_method_30_code
def yX8_fail : MethodName := ⟨RX8, "fail", "()V"⟩
abbrev cX8_isLetter : ByteArray := prog_10_method_31_code
def yX8_isLetter : MethodName := ⟨RX8, "isLetter", "(II)Z"⟩
abbrev cX8_isWord : ByteArray := prog_10_method_32_code
def yX8_isWord : MethodName := ⟨RX8, "isWord", "(IIIIIIII)Z"⟩
abbrev cX8_isSign : ByteArray := prog_10_method_33_code
def yX8_isSign : MethodName := ⟨RX8, "isSign", "(I)Z"⟩
abbrev cX8_opens : ByteArray := prog_10_method_34_code
def yX8_opens : MethodName := ⟨RX8, "opens", "()Z"⟩
abbrev cX8_name : ByteArray := prog_10_method_35_code
def yX8_name : MethodName := ⟨RX8, "name", "()I"⟩
abbrev cX8_atom : ByteArray := prog_10_method_36_code
def yX8_atom : MethodName := ⟨RX8, "atom", "()I"⟩
abbrev cX8_term : ByteArray := prog_10_method_37_code
def yX8_term : MethodName := ⟨RX8, "term", "()I"⟩
abbrev cX8_added : ByteArray := prog_10_method_38_code
def yX8_added : MethodName := ⟨RX8, "added", "()I"⟩
abbrev cX8_not : ByteArray := prog_10_method_39_code
def yX8_not : MethodName := ⟨RX8, "not", "()I"⟩
abbrev cX8_both : ByteArray := prog_10_method_40_code
def yX8_both : MethodName := ⟨RX8, "both", "()I"⟩
abbrev cX8_either : ByteArray := prog_10_method_41_code
def yX8_either : MethodName := ⟨RX8, "either", "()I"⟩
abbrev cX8_part : ByteArray := prog_10_method_42_code
def yX8_part : MethodName := ⟨RX8, "part", "(Z)I"⟩
abbrev cX8_read : ByteArray := prog_10_method_43_code
def yX8_read : MethodName := ⟨RX8, "read", "(II)I"⟩
abbrev cX8_text : ByteArray := prog_10_method_44_code
def yX8_text : MethodName := ⟨RX8, "text", "()I"⟩
abbrev cX8_force : ByteArray := prog_10_method_45_code
def yX8_force : MethodName := ⟨RX8, "force", "(I)I"⟩
abbrev cX8_says : ByteArray := prog_10_method_46_code
def yX8_says : MethodName := ⟨RX8, "says", "(IIII)I"⟩
abbrev cX8_takesOf : ByteArray := prog_10_method_47_code
def yX8_takesOf : MethodName := ⟨RX8, "takesOf", "(II)I"⟩
abbrev cX8_worksOf : ByteArray := prog_10_method_48_code
def yX8_worksOf : MethodName := ⟨RX8, "worksOf", "(II)I"⟩
abbrev cX8_aimOf : ByteArray := prog_10_method_49_code
def yX8_aimOf : MethodName := ⟨RX8, "aimOf", "(I)I"⟩
abbrev cX8_startsOff : ByteArray := prog_10_method_50_code
def yX8_startsOff : MethodName := ⟨RX8, "startsOff", "()V"⟩
abbrev cX8_acts : ByteArray := prog_10_method_51_code
def yX8_acts : MethodName := ⟨RX8, "acts", "(II)V"⟩
abbrev cX8_isReady : ByteArray := prog_10_method_52_code
def yX8_isReady : MethodName := ⟨RX8, "isReady", "()Z"⟩
abbrev cX8_lives : ByteArray := prog_10_method_53_code
def yX8_lives : MethodName := ⟨RX8, "lives", "(I)V"⟩
abbrev cX8_livesAll : ByteArray := prog_10_method_54_code
def yX8_livesAll : MethodName := ⟨RX8, "livesAll", "(I)V"⟩
abbrev cX8_leftAll : ByteArray := prog_10_method_55_code
def yX8_leftAll : MethodName := ⟨RX8, "leftAll", "()I"⟩
abbrev cX8_dear : ByteArray := prog_10_method_56_code
def yX8_dear : MethodName := ⟨RX8, "dear", "()I"⟩
abbrev cX8_morning : ByteArray := prog_10_method_57_code
def yX8_morning : MethodName := ⟨RX8, "morning", "(II)I"⟩
abbrev cX8_orders : ByteArray := prog_10_method_58_code
def yX8_orders : MethodName := ⟨RX8, "orders", "(III)V"⟩
abbrev cX8_best : ByteArray := prog_10_method_59_code
def yX8_best : MethodName := ⟨RX8, "best", "(II)I"⟩
abbrev cX8_begin : ByteArray := prog_10_method_60_code
def yX8_begin : MethodName := ⟨RX8, "begin", "(II)I"⟩
abbrev cX8_home : ByteArray := prog_10_method_61_code
def yX8_home : MethodName := ⟨RX8, "home", "(I)I"⟩
abbrev cX8_stairs : ByteArray := prog_10_method_62_code
def yX8_stairs : MethodName := ⟨RX8, "stairs", "()I"⟩
abbrev cX8_from : ByteArray := prog_10_method_63_code
def yX8_from : MethodName := ⟨RX8, "from", "(II)I"⟩
abbrev cX8_isSo : ByteArray := prog_10_method_64_code
def yX8_isSo : MethodName := ⟨RX8, "isSo", "(II)Z"⟩
abbrev cX8_tries : ByteArray := prog_10_method_65_code
def yX8_tries : MethodName := ⟨RX8, "tries", "(III)V"⟩
abbrev cX8_door : ByteArray := prog_10_method_66_code
def yX8_door : MethodName := ⟨RX8, "door", "(III)I"⟩
abbrev cX8_film : ByteArray := prog_10_method_67_code
def yX8_film : MethodName := ⟨RX8, "film", "(III)I"⟩
abbrev cX8_draws : ByteArray := prog_10_method_68_code
def yX8_draws : MethodName := ⟨RX8, "draws", "(I)I"⟩
abbrev cX8_drawn : ByteArray := prog_10_method_69_code
def yX8_drawn : MethodName := ⟨RX8, "drawn", "(I)I"⟩
abbrev cX8_chance : ByteArray := prog_10_method_70_code
def yX8_chance : MethodName := ⟨RX8, "chance", "(III)J"⟩
abbrev cX8_image : ByteArray := prog_10_method_71_code
def yX8_image : MethodName := ⟨RX8, "image", "()I"⟩
abbrev cX8_back : ByteArray := prog_10_method_72_code
def yX8_back : MethodName := ⟨RX8, "back", "()I"⟩
abbrev cX8_count : ByteArray := prog_10_method_73_code
def yX8_count : MethodName := ⟨RX8, "count", "(I)I"⟩
abbrev cX8_isSheet : ByteArray := prog_10_method_74_code
def yX8_isSheet : MethodName := ⟨RX8, "isSheet", "(I)Z"⟩
abbrev cX8_sheet : ByteArray := prog_10_method_75_code
def yX8_sheet : MethodName := ⟨RX8, "sheet", "(III)I"⟩
abbrev cX8_cell : ByteArray := prog_10_method_76_code
def yX8_cell : MethodName := ⟨RX8, "cell", "(III)I"⟩
abbrev cX8_copy : ByteArray := prog_10_method_77_code
def yX8_copy : MethodName := ⟨RX8, "copy", "(IIIII)I"⟩
abbrev cX8_maids : ByteArray := prog_10_method_78_code
def yX8_maids : MethodName := ⟨RX8, "maids", "(IIII)I"⟩
abbrev cX8_over : ByteArray := prog_10_method_79_code
def yX8_over : MethodName := ⟨RX8, "over", "(I)I"⟩
abbrev cX8_taken : ByteArray := prog_10_method_80_code
def yX8_taken : MethodName := ⟨RX8, "taken", "(II)I"⟩
def RJ9 : String := "java/lang/Math"
abbrev cJ9_abs_0f7a4 : ByteArray := prog_11_method_59_code
def yJ9_abs_0f7a4 : MethodName := ⟨RJ9, "abs", "(I)I"⟩
abbrev cJ9_max_7cf53 : ByteArray := prog_11_method_65_code
def yJ9_max_7cf53 : MethodName := ⟨RJ9, "max", "(II)I"⟩
abbrev cJ9_min_7cf53 : ByteArray := prog_11_method_69_code
def yJ9_min_7cf53 : MethodName := ⟨RJ9, "min", "(II)I"⟩
def RJ0 : String := "java/lang/String"
abbrev cJ0_length_8abf5 : ByteArray := prog_12_method_54_code
def yJ0_length_8abf5 : MethodName := ⟨RJ0, "length", "()I"⟩
abbrev cJ0_charAt_5068e : ByteArray := prog_12_method_56_code
def yJ0_charAt_5068e : MethodName := ⟨RJ0, "charAt", "(I)C"⟩
abbrev cJ0_coder_7d493 : ByteArray := prog_12_method_152_code
def yJ0_coder_7d493 : MethodName := ⟨RJ0, "coder", "()B"⟩
abbrev cJ0_isLatin1_aae02 : ByteArray := prog_12_method_154_code
def yJ0_isLatin1_aae02 : MethodName := ⟨RJ0, "isLatin1", "()Z"⟩
abbrev cJ0_checkIndex_df160 : ByteArray := prog_12_method_155_code
def yJ0_checkIndex_df160 : MethodName := ⟨RJ0, "checkIndex", "(II)V"⟩
def RJ1 : String := "java/lang/StringLatin1"
abbrev cJ1_charAt_3b067 : ByteArray := prog_13_method_2_code
def yJ1_charAt_3b067 : MethodName := ⟨RJ1, "charAt", "([BI)C"⟩
def RJ2 : String := "java/lang/StringUTF16"
abbrev cJ2_getChar_3b067 : ByteArray := prog_14_method_5_code
def yJ2_getChar_3b067 : MethodName := ⟨RJ2, "getChar", "([BI)C"⟩
abbrev cJ2_length_9d52b : ByteArray := prog_14_method_6_code
def yJ2_length_9d52b : MethodName := ⟨RJ2, "length", "([B)I"⟩
abbrev cJ2_charAt_3b067 : ByteArray := prog_14_method_83_code
def yJ2_charAt_3b067 : MethodName := ⟨RJ2, "charAt", "([BI)C"⟩
abbrev cJ2_checkIndex_2214a : ByteArray := prog_14_method_91_code
def yJ2_checkIndex_2214a : MethodName := ⟨RJ2, "checkIndex", "(I[B)V"⟩
def RJ10 : String := "java/lang/System"
def RJ3 : String := "jdk/internal/util/Preconditions"
abbrev cJ3_checkIndex_8e157 : ByteArray := prog_16_method_11_code
def yJ3_checkIndex_8e157 : MethodName := ⟨RJ3, "checkIndex", "(IILjava/util/function/BiFunction;)I"⟩
def RL : String := "NeverSeenLaw"
abbrev vwCl : List vw_C := [(RX0, TX0, 15), (RX1, TX1, 8), (RX2, TX2, 5), (RX3, TX3, 10), (RX4, TX4, 3), (RX5, TX5, 2), (RX6, TX6, 2), (RX7, TX7, 10), (RX8, TX8, 59)]
def nstM : List (String × Nat × MethodName × String) := [("NeverSeen$House", 40, ⟨"NeverSeen$Maid", "<init>", "()V"⟩, "NeverSeen"), ("NeverSeen", 28, ⟨"NeverSeen$Reader", "<init>", "()V"⟩, "NeverSeen"), ("NeverSeen$Day", 11, ⟨"NeverSeen$Ways", "<init>", "()V"⟩, "NeverSeen"), ("NeverSeen", 62, ⟨"NeverSeen$Wording", "<init>", "()V"⟩, "NeverSeen"), ("NeverSeen", 63, ⟨"NeverSeen$Sheet", "<init>", "()V"⟩, "NeverSeen"), ("NeverSeen$Reader", 77, ⟨"NeverSeen", "within", "(II)Z"⟩, "NeverSeen"), ("NeverSeen$Maid", 34, ⟨"NeverSeen", "within", "(II)Z"⟩, "NeverSeen"), ("NeverSeen$House", 51, ⟨"NeverSeen", "within", "(II)Z"⟩, "NeverSeen"), ("NeverSeen$Ways", 36, ⟨"NeverSeen", "within", "(II)Z"⟩, "NeverSeen"), ("NeverSeen$Day", 165, ⟨"NeverSeen", "within", "(II)Z"⟩, "NeverSeen"), ("NeverSeen$Day", 161, ⟨"NeverSeen", "sum", "([I)I"⟩, "NeverSeen"), ("NeverSeen$Sheet", 22, ⟨"NeverSeen", "within", "(II)Z"⟩, "NeverSeen")]
def nstF : List (String × Nat × String × String × String × String) := [("NeverSeen$Maid", 38, "NeverSeen", "UNDER", "[I", "NeverSeen")]
theorem nstM_in : ∀ q ∈ nstM, Cond.methodLinkNest q.1 q.2.1 q.2.2.1 q.2.2.2 ∈ lw_tbl := by decide +kernel
theorem nstF_in : ∀ q ∈ nstF, Cond.fieldLinkNest q.1 q.2.1 q.2.2.1 q.2.2.2.1 q.2.2.2.2.1 q.2.2.2.2.2 ∈ lw_tbl := by decide +kernel
/-- the words that stay true whatever is resolved -/
def lw_gd : List Cond := lw_tbl.filter goodWord
theorem gd_of {w : Cond} (h : w ∈ lw_tbl) (g : goodWord w = true) : w ∈ lw_gd := List.mem_filter.mpr ⟨h, g⟩
theorem gd_at {w : Cond} (i : Nat) (h : lw_tbl[i]? = some w) (g : goodWord w = true) : w ∈ lw_gd := gd_of (List.mem_of_getElem? h) g
theorem gd_good : GoodIn lw_gd lw_gd := fun w hw => ⟨hw, good_of_word (List.mem_filter.mp hw).2⟩
/-- the fields of every class of ours lie as the words say -/
theorem cl_words : ∀ r ∈ vwCl, ∀ w ∈ u_ws r.1 r.2.1 r.2.2, w ∈ lw_gd := by
  have h : (vwCl.all (fun r => (u_ws r.1 r.2.1 r.2.2).all (fun w => decide (w ∈ lw_tbl) && goodWord w))) = true := by decide +kernel
  intro r hr w hw
  have h1 := List.all_eq_true.mp (List.all_eq_true.mp h r hr) w hw
  simp only [Bool.and_eq_true, decide_eq_true_eq] at h1
  exact gd_of h1.1 h1.2
def vwTy : List (Nat → FieldType) := [tyX0, tyX1, tyX2, tyX3, tyX4, tyX5, tyX6, tyX7, tyX8]
def vty (ci : Nat) : Nat → FieldType := vwTy.getD ci tyX0
theorem vty_ok : ∀ ci, ci < 9 → ∀ r, vwCl[ci]? = some r → ∀ k, k < r.2.2 → parseFieldDescriptor (r.2.1 k).2.2.1 = some (vty ci k) := by
  intro ci hci r hr
  match ci, hci with
  | 0, _ => cases hr; exact tyX0_ok
  | 1, _ => cases hr; exact tyX1_ok
  | 2, _ => cases hr; exact tyX2_ok
  | 3, _ => cases hr; exact tyX3_ok
  | 4, _ => cases hr; exact tyX4_ok
  | 5, _ => cases hr; exact tyX5_ok
  | 6, _ => cases hr; exact tyX6_ok
  | 7, _ => cases hr; exact tyX7_ok
  | 8, _ => cases hr; exact tyX8_ok
theorem vnm_ok : ∀ ci, ci < 9 → ∀ r, vwCl[ci]? = some r → ∀ a, a < r.2.2 → ∀ b, b < r.2.2 → a ≠ b → (r.2.1 a).2.1 ≠ (r.2.1 b).2.1 := by
  intro ci hci r hr
  match ci, hci with
  | 0, _ => cases hr; exact nmX0
  | 1, _ => cases hr; exact nmX1
  | 2, _ => cases hr; exact nmX2
  | 3, _ => cases hr; exact nmX3
  | 4, _ => cases hr; exact nmX4
  | 5, _ => cases hr; exact nmX5
  | 6, _ => cases hr; exact nmX6
  | 7, _ => cases hr; exact nmX7
  | 8, _ => cases hr; exact nmX8
