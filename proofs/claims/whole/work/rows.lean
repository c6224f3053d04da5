section
-- ===== PART A: goes FIRST, ahead of the names: the tables' words, and 'selects' of the private methods out of them =====
/-- a private method of a class that the tables say can be made, by its rows of tables_1 -/
def lw_okq (q : MethodName × Nat) : Prop := (q.1.cls ≠ "java/lang/invoke/MethodHandle" ∧ q.1.cls ≠ "java/lang/invoke/VarHandle") ∧ Cond.instantiable q.1.cls q.2 ∈ tables_1 ∧ Cond.privateMethod q.1 ∈ tables_1 ∧ Cond.instanceMethod q.1 ∈ tables_1
theorem lw_p0 : lw_okq (⟨"NeverSeen$Reader", "advance", "()V"⟩, 10) := ⟨⟨by decide +kernel, by decide +kernel⟩, List.mem_of_getElem? (i := 104) (by decide +kernel), List.mem_of_getElem? (i := 302) (by decide +kernel), List.mem_of_getElem? (i := 303) (by decide +kernel)⟩
theorem lw_p1 : lw_okq (⟨"NeverSeen$Reader", "takeWord", "()V"⟩, 10) := ⟨⟨by decide +kernel, by decide +kernel⟩, List.mem_of_getElem? (i := 104) (by decide +kernel), List.mem_of_getElem? (i := 309) (by decide +kernel), List.mem_of_getElem? (i := 310) (by decide +kernel)⟩
theorem lw_p2 : lw_okq (⟨"NeverSeen$Reader", "wordOnTape", "()I"⟩, 10) := ⟨⟨by decide +kernel, by decide +kernel⟩, List.mem_of_getElem? (i := 104) (by decide +kernel), List.mem_of_getElem? (i := 313) (by decide +kernel), List.mem_of_getElem? (i := 314) (by decide +kernel)⟩
theorem lw_p3 : lw_okq (⟨"NeverSeen$Reader", "isOnTape", "(II)Z"⟩, 10) := ⟨⟨by decide +kernel, by decide +kernel⟩, List.mem_of_getElem? (i := 104) (by decide +kernel), List.mem_of_getElem? (i := 320) (by decide +kernel), List.mem_of_getElem? (i := 321) (by decide +kernel)⟩
theorem lw_p4 : lw_okq (⟨"NeverSeen$Reader", "refuse", "()V"⟩, 10) := ⟨⟨by decide +kernel, by decide +kernel⟩, List.mem_of_getElem? (i := 104) (by decide +kernel), List.mem_of_getElem? (i := 324) (by decide +kernel), List.mem_of_getElem? (i := 325) (by decide +kernel)⟩
theorem lw_p5 : lw_okq (⟨"NeverSeen$Reader", "takeNumber", "()V"⟩, 10) := ⟨⟨by decide +kernel, by decide +kernel⟩, List.mem_of_getElem? (i := 104) (by decide +kernel), List.mem_of_getElem? (i := 331) (by decide +kernel), List.mem_of_getElem? (i := 332) (by decide +kernel)⟩
theorem lw_p6 : lw_okq (⟨"NeverSeen$Reader", "expect", "(I)V"⟩, 10) := ⟨⟨by decide +kernel, by decide +kernel⟩, List.mem_of_getElem? (i := 104) (by decide +kernel), List.mem_of_getElem? (i := 338) (by decide +kernel), List.mem_of_getElem? (i := 339) (by decide +kernel)⟩
theorem lw_p7 : lw_okq (⟨"NeverSeen$Reader", "readEither", "(I)V"⟩, 10) := ⟨⟨by decide +kernel, by decide +kernel⟩, List.mem_of_getElem? (i := 104) (by decide +kernel), List.mem_of_getElem? (i := 342) (by decide +kernel), List.mem_of_getElem? (i := 343) (by decide +kernel)⟩
theorem lw_p8 : lw_okq (⟨"NeverSeen$Reader", "readBoth", "(I)V"⟩, 10) := ⟨⟨by decide +kernel, by decide +kernel⟩, List.mem_of_getElem? (i := 104) (by decide +kernel), List.mem_of_getElem? (i := 346) (by decide +kernel), List.mem_of_getElem? (i := 347) (by decide +kernel)⟩
theorem lw_p9 : lw_okq (⟨"NeverSeen$Reader", "readNot", "(I)V"⟩, 10) := ⟨⟨by decide +kernel, by decide +kernel⟩, List.mem_of_getElem? (i := 104) (by decide +kernel), List.mem_of_getElem? (i := 350) (by decide +kernel), List.mem_of_getElem? (i := 351) (by decide +kernel)⟩
theorem lw_p10 : lw_okq (⟨"NeverSeen$Reader", "write", "(I)V"⟩, 10) := ⟨⟨by decide +kernel, by decide +kernel⟩, List.mem_of_getElem? (i := 104) (by decide +kernel), List.mem_of_getElem? (i := 354) (by decide +kernel), List.mem_of_getElem? (i := 355) (by decide +kernel)⟩
theorem lw_p11 : lw_okq (⟨"NeverSeen$Reader", "readSum", "(I)V"⟩, 10) := ⟨⟨by decide +kernel, by decide +kernel⟩, List.mem_of_getElem? (i := 104) (by decide +kernel), List.mem_of_getElem? (i := 358) (by decide +kernel), List.mem_of_getElem? (i := 359) (by decide +kernel)⟩
theorem lw_p12 : lw_okq (⟨"NeverSeen$Reader", "readTerm", "(I)V"⟩, 10) := ⟨⟨by decide +kernel, by decide +kernel⟩, List.mem_of_getElem? (i := 104) (by decide +kernel), List.mem_of_getElem? (i := 362) (by decide +kernel), List.mem_of_getElem? (i := 363) (by decide +kernel)⟩
theorem lw_p13 : lw_okq (⟨"NeverSeen$Reader", "readOne", "(I)V"⟩, 10) := ⟨⟨by decide +kernel, by decide +kernel⟩, List.mem_of_getElem? (i := 104) (by decide +kernel), List.mem_of_getElem? (i := 366) (by decide +kernel), List.mem_of_getElem? (i := 367) (by decide +kernel)⟩
theorem lw_p14 : lw_okq (⟨"NeverSeen", "longestFree", "(II)I"⟩, 10) := ⟨⟨by decide +kernel, by decide +kernel⟩, List.mem_of_getElem? (i := 17) (by decide +kernel), List.mem_of_getElem? (i := 504) (by decide +kernel), List.mem_of_getElem? (i := 505) (by decide +kernel)⟩
theorem lw_p15 : lw_okq (⟨"NeverSeen", "isAskedOfMorning", "(I)Z"⟩, 10) := ⟨⟨by decide +kernel, by decide +kernel⟩, List.mem_of_getElem? (i := 17) (by decide +kernel), List.mem_of_getElem? (i := 516) (by decide +kernel), List.mem_of_getElem? (i := 517) (by decide +kernel)⟩
def lw_privs_1 : List (MethodName × Nat) := [(⟨"NeverSeen$Reader", "advance", "()V"⟩, 10), (⟨"NeverSeen$Reader", "takeWord", "()V"⟩, 10), (⟨"NeverSeen$Reader", "wordOnTape", "()I"⟩, 10), (⟨"NeverSeen$Reader", "isOnTape", "(II)Z"⟩, 10), (⟨"NeverSeen$Reader", "refuse", "()V"⟩, 10), (⟨"NeverSeen$Reader", "takeNumber", "()V"⟩, 10), (⟨"NeverSeen$Reader", "expect", "(I)V"⟩, 10), (⟨"NeverSeen$Reader", "readEither", "(I)V"⟩, 10), (⟨"NeverSeen$Reader", "readBoth", "(I)V"⟩, 10), (⟨"NeverSeen$Reader", "readNot", "(I)V"⟩, 10), (⟨"NeverSeen$Reader", "write", "(I)V"⟩, 10), (⟨"NeverSeen$Reader", "readSum", "(I)V"⟩, 10), (⟨"NeverSeen$Reader", "readTerm", "(I)V"⟩, 10), (⟨"NeverSeen$Reader", "readOne", "(I)V"⟩, 10), (⟨"NeverSeen", "longestFree", "(II)I"⟩, 10), (⟨"NeverSeen", "isAskedOfMorning", "(I)Z"⟩, 10)]
theorem lw_r1 : ∀ q ∈ lw_privs_1, lw_okq q := List.forall_mem_cons.mpr ⟨lw_p0, List.forall_mem_cons.mpr ⟨lw_p1, List.forall_mem_cons.mpr ⟨lw_p2, List.forall_mem_cons.mpr ⟨lw_p3, List.forall_mem_cons.mpr ⟨lw_p4, List.forall_mem_cons.mpr ⟨lw_p5, List.forall_mem_cons.mpr ⟨lw_p6, List.forall_mem_cons.mpr ⟨lw_p7, List.forall_mem_cons.mpr ⟨lw_p8, List.forall_mem_cons.mpr ⟨lw_p9, List.forall_mem_cons.mpr ⟨lw_p10, List.forall_mem_cons.mpr ⟨lw_p11, List.forall_mem_cons.mpr ⟨lw_p12, List.forall_mem_cons.mpr ⟨lw_p13, List.forall_mem_cons.mpr ⟨lw_p14, List.forall_mem_cons.mpr ⟨lw_p15, fun _ h => absurd h List.not_mem_nil⟩⟩⟩⟩⟩⟩⟩⟩⟩⟩⟩⟩⟩⟩⟩⟩
theorem lw_p16 : lw_okq (⟨"NeverSeen$Day", "turn", "(III)V"⟩, 15) := ⟨⟨by decide +kernel, by decide +kernel⟩, List.mem_of_getElem? (i := 144) (by decide +kernel), List.mem_of_getElem? (i := 539) (by decide +kernel), List.mem_of_getElem? (i := 540) (by decide +kernel)⟩
theorem lw_p17 : lw_okq (⟨"NeverSeen$Day", "tells", "(IIII)I"⟩, 15) := ⟨⟨by decide +kernel, by decide +kernel⟩, List.mem_of_getElem? (i := 144) (by decide +kernel), List.mem_of_getElem? (i := 544) (by decide +kernel), List.mem_of_getElem? (i := 545) (by decide +kernel)⟩
theorem lw_p18 : lw_okq (⟨"NeverSeen$Day", "othersWith", "(I)I"⟩, 15) := ⟨⟨by decide +kernel, by decide +kernel⟩, List.mem_of_getElem? (i := 144) (by decide +kernel), List.mem_of_getElem? (i := 548) (by decide +kernel), List.mem_of_getElem? (i := 549) (by decide +kernel)⟩
theorem lw_p19 : lw_okq (⟨"NeverSeen$Day", "isAllDone", "()Z"⟩, 15) := ⟨⟨by decide +kernel, by decide +kernel⟩, List.mem_of_getElem? (i := 144) (by decide +kernel), List.mem_of_getElem? (i := 581) (by decide +kernel), List.mem_of_getElem? (i := 582) (by decide +kernel)⟩
theorem lw_p20 : lw_okq (⟨"NeverSeen", "firstOrder", "(I)I"⟩, 10) := ⟨⟨by decide +kernel, by decide +kernel⟩, List.mem_of_getElem? (i := 17) (by decide +kernel), List.mem_of_getElem? (i := 605) (by decide +kernel), List.mem_of_getElem? (i := 606) (by decide +kernel)⟩
theorem lw_p21 : lw_okq (⟨"NeverSeen", "nextOrder", "(I)V"⟩, 10) := ⟨⟨by decide +kernel, by decide +kernel⟩, List.mem_of_getElem? (i := 17) (by decide +kernel), List.mem_of_getElem? (i := 619) (by decide +kernel), List.mem_of_getElem? (i := 620) (by decide +kernel)⟩
theorem lw_p22 : lw_okq (⟨"NeverSeen", "swapPlaces", "(II)V"⟩, 10) := ⟨⟨by decide +kernel, by decide +kernel⟩, List.mem_of_getElem? (i := 17) (by decide +kernel), List.mem_of_getElem? (i := 623) (by decide +kernel), List.mem_of_getElem? (i := 624) (by decide +kernel)⟩
theorem lw_p23 : lw_okq (⟨"NeverSeen", "isTold", "(LNeverSeen$Sheet;I)Z"⟩, 10) := ⟨⟨by decide +kernel, by decide +kernel⟩, List.mem_of_getElem? (i := 17) (by decide +kernel), List.mem_of_getElem? (i := 651) (by decide +kernel), List.mem_of_getElem? (i := 652) (by decide +kernel)⟩
theorem lw_p24 : lw_okq (⟨"NeverSeen", "doorChoices", "(I)I"⟩, 10) := ⟨⟨by decide +kernel, by decide +kernel⟩, List.mem_of_getElem? (i := 17) (by decide +kernel), List.mem_of_getElem? (i := 659) (by decide +kernel), List.mem_of_getElem? (i := 660) (by decide +kernel)⟩
theorem lw_p25 : lw_okq (⟨"NeverSeen", "isSeenFromDoor", "(LNeverSeen$Sheet;I)Z"⟩, 10) := ⟨⟨by decide +kernel, by decide +kernel⟩, List.mem_of_getElem? (i := 17) (by decide +kernel), List.mem_of_getElem? (i := 663) (by decide +kernel), List.mem_of_getElem? (i := 664) (by decide +kernel)⟩
theorem lw_p26 : lw_okq (⟨"NeverSeenModel", "spell", "(IIIIIIIII)V"⟩, 59) := ⟨⟨by decide +kernel, by decide +kernel⟩, List.mem_of_getElem? (i := 748) (by decide +kernel), List.mem_of_getElem? (i := 754) (by decide +kernel), List.mem_of_getElem? (i := 755) (by decide +kernel)⟩
theorem lw_p27 : lw_okq (⟨"NeverSeenModel", "isOf", "(II)Z"⟩, 59) := ⟨⟨by decide +kernel, by decide +kernel⟩, List.mem_of_getElem? (i := 748) (by decide +kernel), List.mem_of_getElem? (i := 944) (by decide +kernel), List.mem_of_getElem? (i := 945) (by decide +kernel)⟩
theorem lw_p28 : lw_okq (⟨"NeverSeenModel", "isStay", "(I)Z"⟩, 59) := ⟨⟨by decide +kernel, by decide +kernel⟩, List.mem_of_getElem? (i := 748) (by decide +kernel), List.mem_of_getElem? (i := 952) (by decide +kernel), List.mem_of_getElem? (i := 953) (by decide +kernel)⟩
theorem lw_p29 : lw_okq (⟨"NeverSeenModel", "isMaid", "(I)Z"⟩, 59) := ⟨⟨by decide +kernel, by decide +kernel⟩, List.mem_of_getElem? (i := 748) (by decide +kernel), List.mem_of_getElem? (i := 956) (by decide +kernel), List.mem_of_getElem? (i := 957) (by decide +kernel)⟩
theorem lw_p30 : lw_okq (⟨"NeverSeenModel", "lays", "(III)V"⟩, 59) := ⟨⟨by decide +kernel, by decide +kernel⟩, List.mem_of_getElem? (i := 748) (by decide +kernel), List.mem_of_getElem? (i := 970) (by decide +kernel), List.mem_of_getElem? (i := 971) (by decide +kernel)⟩
theorem lw_p31 : lw_okq (⟨"NeverSeenModel", "gathers", "()V"⟩, 59) := ⟨⟨by decide +kernel, by decide +kernel⟩, List.mem_of_getElem? (i := 748) (by decide +kernel), List.mem_of_getElem? (i := 995) (by decide +kernel), List.mem_of_getElem? (i := 996) (by decide +kernel)⟩
def lw_privs_2 : List (MethodName × Nat) := [(⟨"NeverSeen$Day", "turn", "(III)V"⟩, 15), (⟨"NeverSeen$Day", "tells", "(IIII)I"⟩, 15), (⟨"NeverSeen$Day", "othersWith", "(I)I"⟩, 15), (⟨"NeverSeen$Day", "isAllDone", "()Z"⟩, 15), (⟨"NeverSeen", "firstOrder", "(I)I"⟩, 10), (⟨"NeverSeen", "nextOrder", "(I)V"⟩, 10), (⟨"NeverSeen", "swapPlaces", "(II)V"⟩, 10), (⟨"NeverSeen", "isTold", "(LNeverSeen$Sheet;I)Z"⟩, 10), (⟨"NeverSeen", "doorChoices", "(I)I"⟩, 10), (⟨"NeverSeen", "isSeenFromDoor", "(LNeverSeen$Sheet;I)Z"⟩, 10), (⟨"NeverSeenModel", "spell", "(IIIIIIIII)V"⟩, 59), (⟨"NeverSeenModel", "isOf", "(II)Z"⟩, 59), (⟨"NeverSeenModel", "isStay", "(I)Z"⟩, 59), (⟨"NeverSeenModel", "isMaid", "(I)Z"⟩, 59), (⟨"NeverSeenModel", "lays", "(III)V"⟩, 59), (⟨"NeverSeenModel", "gathers", "()V"⟩, 59)]
theorem lw_r2 : ∀ q ∈ lw_privs_2, lw_okq q := List.forall_mem_cons.mpr ⟨lw_p16, List.forall_mem_cons.mpr ⟨lw_p17, List.forall_mem_cons.mpr ⟨lw_p18, List.forall_mem_cons.mpr ⟨lw_p19, List.forall_mem_cons.mpr ⟨lw_p20, List.forall_mem_cons.mpr ⟨lw_p21, List.forall_mem_cons.mpr ⟨lw_p22, List.forall_mem_cons.mpr ⟨lw_p23, List.forall_mem_cons.mpr ⟨lw_p24, List.forall_mem_cons.mpr ⟨lw_p25, List.forall_mem_cons.mpr ⟨lw_p26, List.forall_mem_cons.mpr ⟨lw_p27, List.forall_mem_cons.mpr ⟨lw_p28, List.forall_mem_cons.mpr ⟨lw_p29, List.forall_mem_cons.mpr ⟨lw_p30, List.forall_mem_cons.mpr ⟨lw_p31, fun _ h => absurd h List.not_mem_nil⟩⟩⟩⟩⟩⟩⟩⟩⟩⟩⟩⟩⟩⟩⟩⟩
theorem lw_p32 : lw_okq (⟨"NeverSeenModel", "isBeside", "(II)Z"⟩, 59) := ⟨⟨by decide +kernel, by decide +kernel⟩, List.mem_of_getElem? (i := 748) (by decide +kernel), List.mem_of_getElem? (i := 999) (by decide +kernel), List.mem_of_getElem? (i := 1000) (by decide +kernel)⟩
theorem lw_p33 : lw_okq (⟨"NeverSeenModel", "nextTo", "(II)I"⟩, 59) := ⟨⟨by decide +kernel, by decide +kernel⟩, List.mem_of_getElem? (i := 748) (by decide +kernel), List.mem_of_getElem? (i := 1003) (by decide +kernel), List.mem_of_getElem? (i := 1004) (by decide +kernel)⟩
theorem lw_p34 : lw_okq (⟨"NeverSeenModel", "masterIn", "(I)I"⟩, 59) := ⟨⟨by decide +kernel, by decide +kernel⟩, List.mem_of_getElem? (i := 748) (by decide +kernel), List.mem_of_getElem? (i := 1011) (by decide +kernel), List.mem_of_getElem? (i := 1012) (by decide +kernel)⟩
theorem lw_p35 : lw_okq (⟨"NeverSeenModel", "longestOf", "(I)I"⟩, 59) := ⟨⟨by decide +kernel, by decide +kernel⟩, List.mem_of_getElem? (i := 748) (by decide +kernel), List.mem_of_getElem? (i := 1023) (by decide +kernel), List.mem_of_getElem? (i := 1024) (by decide +kernel)⟩
theorem lw_p36 : lw_okq (⟨"NeverSeenModel", "read", "(II)I"⟩, 59) := ⟨⟨by decide +kernel, by decide +kernel⟩, List.mem_of_getElem? (i := 748) (by decide +kernel), List.mem_of_getElem? (i := 1041) (by decide +kernel), List.mem_of_getElem? (i := 1042) (by decide +kernel)⟩
theorem lw_p37 : lw_okq (⟨"NeverSeenModel", "next", "()V"⟩, 59) := ⟨⟨by decide +kernel, by decide +kernel⟩, List.mem_of_getElem? (i := 748) (by decide +kernel), List.mem_of_getElem? (i := 1045) (by decide +kernel), List.mem_of_getElem? (i := 1046) (by decide +kernel)⟩
theorem lw_p38 : lw_okq (⟨"NeverSeenModel", "byteAt", "(I)I"⟩, 59) := ⟨⟨by decide +kernel, by decide +kernel⟩, List.mem_of_getElem? (i := 748) (by decide +kernel), List.mem_of_getElem? (i := 1049) (by decide +kernel), List.mem_of_getElem? (i := 1050) (by decide +kernel)⟩
theorem lw_p39 : lw_okq (⟨"NeverSeenModel", "isWord", "(IIIIIIII)Z"⟩, 59) := ⟨⟨by decide +kernel, by decide +kernel⟩, List.mem_of_getElem? (i := 748) (by decide +kernel), List.mem_of_getElem? (i := 1057) (by decide +kernel), List.mem_of_getElem? (i := 1058) (by decide +kernel)⟩
theorem lw_p40 : lw_okq (⟨"NeverSeenModel", "isLetter", "(II)Z"⟩, 59) := ⟨⟨by decide +kernel, by decide +kernel⟩, List.mem_of_getElem? (i := 748) (by decide +kernel), List.mem_of_getElem? (i := 1061) (by decide +kernel), List.mem_of_getElem? (i := 1062) (by decide +kernel)⟩
theorem lw_p41 : lw_okq (⟨"NeverSeenModel", "part", "(Z)I"⟩, 59) := ⟨⟨by decide +kernel, by decide +kernel⟩, List.mem_of_getElem? (i := 748) (by decide +kernel), List.mem_of_getElem? (i := 1065) (by decide +kernel), List.mem_of_getElem? (i := 1066) (by decide +kernel)⟩
theorem lw_p42 : lw_okq (⟨"NeverSeenModel", "fail", "()V"⟩, 59) := ⟨⟨by decide +kernel, by decide +kernel⟩, List.mem_of_getElem? (i := 748) (by decide +kernel), List.mem_of_getElem? (i := 1069) (by decide +kernel), List.mem_of_getElem? (i := 1070) (by decide +kernel)⟩
theorem lw_p43 : lw_okq (⟨"NeverSeenModel", "either", "()I"⟩, 59) := ⟨⟨by decide +kernel, by decide +kernel⟩, List.mem_of_getElem? (i := 748) (by decide +kernel), List.mem_of_getElem? (i := 1073) (by decide +kernel), List.mem_of_getElem? (i := 1074) (by decide +kernel)⟩
theorem lw_p44 : lw_okq (⟨"NeverSeenModel", "both", "()I"⟩, 59) := ⟨⟨by decide +kernel, by decide +kernel⟩, List.mem_of_getElem? (i := 748) (by decide +kernel), List.mem_of_getElem? (i := 1077) (by decide +kernel), List.mem_of_getElem? (i := 1078) (by decide +kernel)⟩
theorem lw_p45 : lw_okq (⟨"NeverSeenModel", "not", "()I"⟩, 59) := ⟨⟨by decide +kernel, by decide +kernel⟩, List.mem_of_getElem? (i := 748) (by decide +kernel), List.mem_of_getElem? (i := 1081) (by decide +kernel), List.mem_of_getElem? (i := 1082) (by decide +kernel)⟩
theorem lw_p46 : lw_okq (⟨"NeverSeenModel", "opens", "()Z"⟩, 59) := ⟨⟨by decide +kernel, by decide +kernel⟩, List.mem_of_getElem? (i := 748) (by decide +kernel), List.mem_of_getElem? (i := 1085) (by decide +kernel), List.mem_of_getElem? (i := 1086) (by decide +kernel)⟩
theorem lw_p47 : lw_okq (⟨"NeverSeenModel", "added", "()I"⟩, 59) := ⟨⟨by decide +kernel, by decide +kernel⟩, List.mem_of_getElem? (i := 748) (by decide +kernel), List.mem_of_getElem? (i := 1089) (by decide +kernel), List.mem_of_getElem? (i := 1090) (by decide +kernel)⟩
def lw_privs_3 : List (MethodName × Nat) := [(⟨"NeverSeenModel", "isBeside", "(II)Z"⟩, 59), (⟨"NeverSeenModel", "nextTo", "(II)I"⟩, 59), (⟨"NeverSeenModel", "masterIn", "(I)I"⟩, 59), (⟨"NeverSeenModel", "longestOf", "(I)I"⟩, 59), (⟨"NeverSeenModel", "read", "(II)I"⟩, 59), (⟨"NeverSeenModel", "next", "()V"⟩, 59), (⟨"NeverSeenModel", "byteAt", "(I)I"⟩, 59), (⟨"NeverSeenModel", "isWord", "(IIIIIIII)Z"⟩, 59), (⟨"NeverSeenModel", "isLetter", "(II)Z"⟩, 59), (⟨"NeverSeenModel", "part", "(Z)I"⟩, 59), (⟨"NeverSeenModel", "fail", "()V"⟩, 59), (⟨"NeverSeenModel", "either", "()I"⟩, 59), (⟨"NeverSeenModel", "both", "()I"⟩, 59), (⟨"NeverSeenModel", "not", "()I"⟩, 59), (⟨"NeverSeenModel", "opens", "()Z"⟩, 59), (⟨"NeverSeenModel", "added", "()I"⟩, 59)]
theorem lw_r3 : ∀ q ∈ lw_privs_3, lw_okq q := List.forall_mem_cons.mpr ⟨lw_p32, List.forall_mem_cons.mpr ⟨lw_p33, List.forall_mem_cons.mpr ⟨lw_p34, List.forall_mem_cons.mpr ⟨lw_p35, List.forall_mem_cons.mpr ⟨lw_p36, List.forall_mem_cons.mpr ⟨lw_p37, List.forall_mem_cons.mpr ⟨lw_p38, List.forall_mem_cons.mpr ⟨lw_p39, List.forall_mem_cons.mpr ⟨lw_p40, List.forall_mem_cons.mpr ⟨lw_p41, List.forall_mem_cons.mpr ⟨lw_p42, List.forall_mem_cons.mpr ⟨lw_p43, List.forall_mem_cons.mpr ⟨lw_p44, List.forall_mem_cons.mpr ⟨lw_p45, List.forall_mem_cons.mpr ⟨lw_p46, List.forall_mem_cons.mpr ⟨lw_p47, fun _ h => absurd h List.not_mem_nil⟩⟩⟩⟩⟩⟩⟩⟩⟩⟩⟩⟩⟩⟩⟩⟩
theorem lw_p48 : lw_okq (⟨"NeverSeenModel", "term", "()I"⟩, 59) := ⟨⟨by decide +kernel, by decide +kernel⟩, List.mem_of_getElem? (i := 748) (by decide +kernel), List.mem_of_getElem? (i := 1093) (by decide +kernel), List.mem_of_getElem? (i := 1094) (by decide +kernel)⟩
theorem lw_p49 : lw_okq (⟨"NeverSeenModel", "atom", "()I"⟩, 59) := ⟨⟨by decide +kernel, by decide +kernel⟩, List.mem_of_getElem? (i := 748) (by decide +kernel), List.mem_of_getElem? (i := 1097) (by decide +kernel), List.mem_of_getElem? (i := 1098) (by decide +kernel)⟩
theorem lw_p50 : lw_okq (⟨"NeverSeenModel", "isSign", "(I)Z"⟩, 59) := ⟨⟨by decide +kernel, by decide +kernel⟩, List.mem_of_getElem? (i := 748) (by decide +kernel), List.mem_of_getElem? (i := 1101) (by decide +kernel), List.mem_of_getElem? (i := 1102) (by decide +kernel)⟩
theorem lw_p51 : lw_okq (⟨"NeverSeenModel", "name", "()I"⟩, 59) := ⟨⟨by decide +kernel, by decide +kernel⟩, List.mem_of_getElem? (i := 748) (by decide +kernel), List.mem_of_getElem? (i := 1105) (by decide +kernel), List.mem_of_getElem? (i := 1106) (by decide +kernel)⟩
theorem lw_p52 : lw_okq (⟨"NeverSeenModel", "livesAll", "(I)V"⟩, 59) := ⟨⟨by decide +kernel, by decide +kernel⟩, List.mem_of_getElem? (i := 748) (by decide +kernel), List.mem_of_getElem? (i := 1120) (by decide +kernel), List.mem_of_getElem? (i := 1121) (by decide +kernel)⟩
theorem lw_p53 : lw_okq (⟨"NeverSeenModel", "startsOff", "()V"⟩, 59) := ⟨⟨by decide +kernel, by decide +kernel⟩, List.mem_of_getElem? (i := 748) (by decide +kernel), List.mem_of_getElem? (i := 1124) (by decide +kernel), List.mem_of_getElem? (i := 1125) (by decide +kernel)⟩
theorem lw_p54 : lw_okq (⟨"NeverSeenModel", "lives", "(I)V"⟩, 59) := ⟨⟨by decide +kernel, by decide +kernel⟩, List.mem_of_getElem? (i := 748) (by decide +kernel), List.mem_of_getElem? (i := 1128) (by decide +kernel), List.mem_of_getElem? (i := 1129) (by decide +kernel)⟩
theorem lw_p55 : lw_okq (⟨"NeverSeenModel", "acts", "(II)V"⟩, 59) := ⟨⟨by decide +kernel, by decide +kernel⟩, List.mem_of_getElem? (i := 748) (by decide +kernel), List.mem_of_getElem? (i := 1132) (by decide +kernel), List.mem_of_getElem? (i := 1133) (by decide +kernel)⟩
theorem lw_p56 : lw_okq (⟨"NeverSeenModel", "aimOf", "(I)I"⟩, 59) := ⟨⟨by decide +kernel, by decide +kernel⟩, List.mem_of_getElem? (i := 748) (by decide +kernel), List.mem_of_getElem? (i := 1136) (by decide +kernel), List.mem_of_getElem? (i := 1137) (by decide +kernel)⟩
theorem lw_p57 : lw_okq (⟨"NeverSeenModel", "says", "(IIII)I"⟩, 59) := ⟨⟨by decide +kernel, by decide +kernel⟩, List.mem_of_getElem? (i := 748) (by decide +kernel), List.mem_of_getElem? (i := 1140) (by decide +kernel), List.mem_of_getElem? (i := 1141) (by decide +kernel)⟩
theorem lw_p58 : lw_okq (⟨"NeverSeenModel", "worksOf", "(II)I"⟩, 59) := ⟨⟨by decide +kernel, by decide +kernel⟩, List.mem_of_getElem? (i := 748) (by decide +kernel), List.mem_of_getElem? (i := 1147) (by decide +kernel), List.mem_of_getElem? (i := 1148) (by decide +kernel)⟩
theorem lw_p59 : lw_okq (⟨"NeverSeenModel", "takesOf", "(II)I"⟩, 59) := ⟨⟨by decide +kernel, by decide +kernel⟩, List.mem_of_getElem? (i := 748) (by decide +kernel), List.mem_of_getElem? (i := 1151) (by decide +kernel), List.mem_of_getElem? (i := 1152) (by decide +kernel)⟩
theorem lw_p60 : lw_okq (⟨"NeverSeenModel", "isReady", "()Z"⟩, 59) := ⟨⟨by decide +kernel, by decide +kernel⟩, List.mem_of_getElem? (i := 748) (by decide +kernel), List.mem_of_getElem? (i := 1155) (by decide +kernel), List.mem_of_getElem? (i := 1156) (by decide +kernel)⟩
theorem lw_p61 : lw_okq (⟨"NeverSeenModel", "leftAll", "()I"⟩, 59) := ⟨⟨by decide +kernel, by decide +kernel⟩, List.mem_of_getElem? (i := 748) (by decide +kernel), List.mem_of_getElem? (i := 1159) (by decide +kernel), List.mem_of_getElem? (i := 1160) (by decide +kernel)⟩
theorem lw_p62 : lw_okq (⟨"NeverSeenModel", "orders", "(III)V"⟩, 59) := ⟨⟨by decide +kernel, by decide +kernel⟩, List.mem_of_getElem? (i := 748) (by decide +kernel), List.mem_of_getElem? (i := 1167) (by decide +kernel), List.mem_of_getElem? (i := 1168) (by decide +kernel)⟩
theorem lw_p63 : lw_okq (⟨"NeverSeenModel", "dear", "()I"⟩, 59) := ⟨⟨by decide +kernel, by decide +kernel⟩, List.mem_of_getElem? (i := 748) (by decide +kernel), List.mem_of_getElem? (i := 1171) (by decide +kernel), List.mem_of_getElem? (i := 1172) (by decide +kernel)⟩
def lw_privs_4 : List (MethodName × Nat) := [(⟨"NeverSeenModel", "term", "()I"⟩, 59), (⟨"NeverSeenModel", "atom", "()I"⟩, 59), (⟨"NeverSeenModel", "isSign", "(I)Z"⟩, 59), (⟨"NeverSeenModel", "name", "()I"⟩, 59), (⟨"NeverSeenModel", "livesAll", "(I)V"⟩, 59), (⟨"NeverSeenModel", "startsOff", "()V"⟩, 59), (⟨"NeverSeenModel", "lives", "(I)V"⟩, 59), (⟨"NeverSeenModel", "acts", "(II)V"⟩, 59), (⟨"NeverSeenModel", "aimOf", "(I)I"⟩, 59), (⟨"NeverSeenModel", "says", "(IIII)I"⟩, 59), (⟨"NeverSeenModel", "worksOf", "(II)I"⟩, 59), (⟨"NeverSeenModel", "takesOf", "(II)I"⟩, 59), (⟨"NeverSeenModel", "isReady", "()Z"⟩, 59), (⟨"NeverSeenModel", "leftAll", "()I"⟩, 59), (⟨"NeverSeenModel", "orders", "(III)V"⟩, 59), (⟨"NeverSeenModel", "dear", "()I"⟩, 59)]
theorem lw_r4 : ∀ q ∈ lw_privs_4, lw_okq q := List.forall_mem_cons.mpr ⟨lw_p48, List.forall_mem_cons.mpr ⟨lw_p49, List.forall_mem_cons.mpr ⟨lw_p50, List.forall_mem_cons.mpr ⟨lw_p51, List.forall_mem_cons.mpr ⟨lw_p52, List.forall_mem_cons.mpr ⟨lw_p53, List.forall_mem_cons.mpr ⟨lw_p54, List.forall_mem_cons.mpr ⟨lw_p55, List.forall_mem_cons.mpr ⟨lw_p56, List.forall_mem_cons.mpr ⟨lw_p57, List.forall_mem_cons.mpr ⟨lw_p58, List.forall_mem_cons.mpr ⟨lw_p59, List.forall_mem_cons.mpr ⟨lw_p60, List.forall_mem_cons.mpr ⟨lw_p61, List.forall_mem_cons.mpr ⟨lw_p62, List.forall_mem_cons.mpr ⟨lw_p63, fun _ h => absurd h List.not_mem_nil⟩⟩⟩⟩⟩⟩⟩⟩⟩⟩⟩⟩⟩⟩⟩⟩
theorem lw_p64 : lw_okq (⟨"NeverSeenModel", "isSo", "(II)Z"⟩, 59) := ⟨⟨by decide +kernel, by decide +kernel⟩, List.mem_of_getElem? (i := 748) (by decide +kernel), List.mem_of_getElem? (i := 1199) (by decide +kernel), List.mem_of_getElem? (i := 1200) (by decide +kernel)⟩
theorem lw_p65 : lw_okq (⟨"NeverSeenModel", "tries", "(III)V"⟩, 59) := ⟨⟨by decide +kernel, by decide +kernel⟩, List.mem_of_getElem? (i := 748) (by decide +kernel), List.mem_of_getElem? (i := 1203) (by decide +kernel), List.mem_of_getElem? (i := 1204) (by decide +kernel)⟩
theorem lw_p66 : lw_okq (⟨"NeverSeenModel", "draws", "(I)I"⟩, 59) := ⟨⟨by decide +kernel, by decide +kernel⟩, List.mem_of_getElem? (i := 748) (by decide +kernel), List.mem_of_getElem? (i := 1222) (by decide +kernel), List.mem_of_getElem? (i := 1223) (by decide +kernel)⟩
def lw_privs_5 : List (MethodName × Nat) := [(⟨"NeverSeenModel", "isSo", "(II)Z"⟩, 59), (⟨"NeverSeenModel", "tries", "(III)V"⟩, 59), (⟨"NeverSeenModel", "draws", "(I)I"⟩, 59)]
theorem lw_r5 : ∀ q ∈ lw_privs_5, lw_okq q := List.forall_mem_cons.mpr ⟨lw_p64, List.forall_mem_cons.mpr ⟨lw_p65, List.forall_mem_cons.mpr ⟨lw_p66, fun _ h => absurd h List.not_mem_nil⟩⟩⟩
def lw_privs : List (MethodName × Nat) := lw_privs_1 ++ (lw_privs_2 ++ (lw_privs_3 ++ (lw_privs_4 ++ (lw_privs_5))))
def lw_tbl : List Cond := k2_sels lw_privs ++ tables_1
theorem lw_privs_ok : ∀ q ∈ lw_privs, lw_okq q := by
  show ∀ q ∈ lw_privs_1 ++ (lw_privs_2 ++ (lw_privs_3 ++ (lw_privs_4 ++ (lw_privs_5)))), lw_okq q
  exact List.forall_mem_append.mpr ⟨lw_r1, List.forall_mem_append.mpr ⟨lw_r2, List.forall_mem_append.mpr ⟨lw_r3, List.forall_mem_append.mpr ⟨lw_r4, lw_r5⟩⟩⟩⟩
def RX0 : String := "NeverSeen$Day"
def TX0 : u_T := fun k => match k with
  | 0 => ("NeverSeen$Day", "house", "LNeverSeen$House;", false)
  | 1 => ("NeverSeen$Day", "texts", "[LNeverSeen$Wording;", true)
  | 2 => ("NeverSeen$Day", "ways", "LNeverSeen$Ways;", true)
  | 3 => ("NeverSeen$Day", "names", "[I", true)
  | 4 => ("NeverSeen$Day", "stack", "[I", true)
  | 5 => ("NeverSeen$Day", "room", "[I", true)
  | 6 => ("NeverSeen$Day", "to", "[I", true)
  | 7 => ("NeverSeen$Day", "onWay", "[I", true)
  | 8 => ("NeverSeen$Day", "place", "[I", true)
  | 9 => ("NeverSeen$Day", "seen", "[I", true)
  | 10 => ("NeverSeen$Day", "waited", "[I", true)
  | 11 => ("NeverSeen$Day", "work", "[I", true)
  | 12 => ("NeverSeen$Day", "asked", "I", false)
  | 13 => ("NeverSeen$Day", "shillings", "I", false)
  | _ => ("NeverSeen$Day", "ready", "I", false)
def tyX0 : Nat → FieldType := fun k => match k with
  | 0 => .object "NeverSeen$House"
  | 1 => .array (.object "NeverSeen$Wording")
  | 2 => .object "NeverSeen$Ways"
  | 3 => .array .int
  | 4 => .array .int
  | 5 => .array .int
  | 6 => .array .int
  | 7 => .array .int
  | 8 => .array .int
  | 9 => .array .int
  | 10 => .array .int
  | 11 => .array .int
  | 12 => .int
  | 13 => .int
  | _ => .int
theorem nmX0 : ∀ a, a < 15 → ∀ b, b < 15 → a ≠ b → (TX0 a).2.1 ≠ (TX0 b).2.1 := by decide +kernel
theorem tyX0_ok : ∀ k, k < 15 → parseFieldDescriptor (TX0 k).2.2.1 = some (tyX0 k) := by decide +kernel
abbrev cX0_init : ByteArray := prog_2_method_1_code
def yX0_init : MethodName := ⟨RX0, "<init>", "(LNeverSeen$House;[LNeverSeen$Wording;)V"⟩
abbrev cX0_run : ByteArray := prog_2_method_2_code
def yX0_run : MethodName := ⟨RX0, "run", "(LNeverSeen$House;I)V"⟩
abbrev cX0_start : ByteArray := prog_2_method_3_code
def yX0_start : MethodName := ⟨RX0, "start", "(LNeverSeen$House;)V"⟩
abbrev cX0_pass : ByteArray := prog_2_method_4_code
def yX0_pass : MethodName := ⟨RX0, "pass", "(I)V"⟩
abbrev cX0_turn : ByteArray := prog_2_method_5_code
def yX0_turn : MethodName := ⟨RX0, "turn", "(III)V"⟩
abbrev cX0_tells : ByteArray := prog_2_method_6_code
def yX0_tells : MethodName := ⟨RX0, "tells", "(IIII)I"⟩
abbrev cX0_othersWith : ByteArray := prog_2_method_7_code
def yX0_othersWith : MethodName := ⟨RX0, "othersWith", "(I)I"⟩
abbrev cX0_isAllDone : ByteArray := prog_2_method_8_code
def yX0_isAllDone : MethodName := ⟨RX0, "isAllDone", "()Z"⟩
abbrev cX0_workLeft : ByteArray := prog_2_method_9_code
def yX0_workLeft : MethodName := ⟨RX0, "workLeft", "()I"⟩
abbrev cX0_dear : ByteArray := prog_2_method_10_code
def yX0_dear : MethodName := ⟨RX0, "dear", "()I"⟩
abbrev cX0_isAnySeen : ByteArray := prog_2_method_11_code
def yX0_isAnySeen : MethodName := ⟨RX0, "isAnySeen", "()Z"⟩
abbrev cX0_ofMaid : ByteArray := prog_2_method_12_code
def yX0_ofMaid : MethodName := ⟨RX0, "ofMaid", "(II)I"⟩
def RX1 : String := "NeverSeen$House"
def TX1 : u_T := fun k => match k with
  | 0 => ("NeverSeen$House", "stairs", "I", false)
  | 1 => ("NeverSeen$House", "stays", "I", false)
  | 2 => ("NeverSeen$House", "maids", "I", false)
  | 3 => ("NeverSeen$House", "rule", "I", false)
  | 4 => ("NeverSeen$House", "stayRoom", "[I", true)
  | 5 => ("NeverSeen$House", "stayMinutes", "[I", true)
  | 6 => ("NeverSeen$House", "work", "[I", true)
  | _ => ("NeverSeen$House", "maid", "[LNeverSeen$Maid;", true)
def tyX1 : Nat → FieldType := fun k => match k with
  | 0 => .int
  | 1 => .int
  | 2 => .int
  | 3 => .int
  | 4 => .array .int
  | 5 => .array .int
  | 6 => .array .int
  | _ => .array (.object "NeverSeen$Maid")
theorem nmX1 : ∀ a, a < 8 → ∀ b, b < 8 → a ≠ b → (TX1 a).2.1 ≠ (TX1 b).2.1 := by decide +kernel
theorem tyX1_ok : ∀ k, k < 8 → parseFieldDescriptor (TX1 k).2.2.1 = some (tyX1 k) := by decide +kernel
abbrev cX1_init : ByteArray := prog_3_method_1_code
def yX1_init : MethodName := ⟨RX1, "<init>", "()V"⟩
abbrev cX1_become : ByteArray := prog_3_method_2_code
def yX1_become : MethodName := ⟨RX1, "become", "(LNeverSeen$House;)V"⟩
abbrev cX1_put : ByteArray := prog_3_method_3_code
def yX1_put : MethodName := ⟨RX1, "put", "(III)V"⟩
abbrev cX1_leaveOut : ByteArray := prog_3_method_4_code
def yX1_leaveOut : MethodName := ⟨RX1, "leaveOut", "(I)V"⟩
abbrev cX1_masterIn : ByteArray := prog_3_method_5_code
def yX1_masterIn : MethodName := ⟨RX1, "masterIn", "(I)I"⟩
abbrev cX1_draw : ByteArray := prog_3_method_6_code
def yX1_draw : MethodName := ⟨RX1, "draw", "(I)V"⟩
def RX2 : String := "NeverSeen$Maid"
def TX2 : u_T := fun k => match k with
  | 0 => ("NeverSeen$Maid", "kind", "I", false)
  | 1 => ("NeverSeen$Maid", "number", "I", false)
  | 2 => ("NeverSeen$Maid", "begins", "I", false)
  | 3 => ("NeverSeen$Maid", "listed", "I", false)
  | _ => ("NeverSeen$Maid", "list", "[I", true)
def tyX2 : Nat → FieldType := fun k => match k with
  | 0 => .int
  | 1 => .int
  | 2 => .int
  | 3 => .int
  | _ => .array .int
theorem nmX2 : ∀ a, a < 5 → ∀ b, b < 5 → a ≠ b → (TX2 a).2.1 ≠ (TX2 b).2.1 := by decide +kernel
theorem tyX2_ok : ∀ k, k < 5 → parseFieldDescriptor (TX2 k).2.2.1 = some (tyX2 k) := by decide +kernel
abbrev cX2_init : ByteArray := prog_4_method_1_code
def yX2_init : MethodName := ⟨RX2, "<init>", "()V"⟩
abbrev cX2_arrive : ByteArray := prog_4_method_2_code
def yX2_arrive : MethodName := ⟨RX2, "arrive", "(III)V"⟩
abbrev cX2_become : ByteArray := prog_4_method_3_code
def yX2_become : MethodName := ⟨RX2, "become", "(LNeverSeen$Maid;)V"⟩
abbrev cX2_roomListed : ByteArray := prog_4_method_4_code
def yX2_roomListed : MethodName := ⟨RX2, "roomListed", "(I)I"⟩
abbrev cX2_isOfKind : ByteArray := prog_4_method_5_code
def yX2_isOfKind : MethodName := ⟨RX2, "isOfKind", "(I)Z"⟩
abbrev cX2_takes : ByteArray := prog_4_method_6_code
def yX2_takes : MethodName := ⟨RX2, "takes", "(I)I"⟩
abbrev cX2_works : ByteArray := prog_4_method_7_code
def yX2_works : MethodName := ⟨RX2, "works", "(I)I"⟩
abbrev cX2_dares : ByteArray := prog_4_method_8_code
def yX2_dares : MethodName := ⟨RX2, "dares", "(I)Z"⟩
def RX3 : String := "NeverSeen$Reader"
def TX3 : u_T := fun k => match k with
  | 0 => ("NeverSeen$Reader", "tape", "[I", true)
  | 1 => ("NeverSeen$Reader", "size", "I", false)
  | 2 => ("NeverSeen$Reader", "at", "I", false)
  | 3 => ("NeverSeen$Reader", "behind", "I", false)
  | 4 => ("NeverSeen$Reader", "token", "I", false)
  | 5 => ("NeverSeen$Reader", "number", "I", false)
  | 6 => ("NeverSeen$Reader", "fault", "I", false)
  | 7 => ("NeverSeen$Reader", "code", "[I", true)
  | 8 => ("NeverSeen$Reader", "ends", "[I", true)
  | _ => ("NeverSeen$Reader", "written", "I", false)
def tyX3 : Nat → FieldType := fun k => match k with
  | 0 => .array .int
  | 1 => .int
  | 2 => .int
  | 3 => .int
  | 4 => .int
  | 5 => .int
  | 6 => .int
  | 7 => .array .int
  | 8 => .array .int
  | _ => .int
theorem nmX3 : ∀ a, a < 10 → ∀ b, b < 10 → a ≠ b → (TX3 a).2.1 ≠ (TX3 b).2.1 := by decide +kernel
theorem tyX3_ok : ∀ k, k < 10 → parseFieldDescriptor (TX3 k).2.2.1 = some (tyX3 k) := by decide +kernel
abbrev cX3_init : ByteArray := prog_5_method_1_code
def yX3_init : MethodName := ⟨RX3, "<init>", "()V"⟩
abbrev cX3_add : ByteArray := prog_5_method_2_code
def yX3_add : MethodName := ⟨RX3, "add", "(I)Z"⟩
abbrev cX3_read : ByteArray := prog_5_method_3_code
def yX3_read : MethodName := ⟨RX3, "read", "(LNeverSeen$Wording;)I"⟩
abbrev cX3_readEither : ByteArray := prog_5_method_4_code
def yX3_readEither : MethodName := ⟨RX3, "readEither", "(I)V"⟩
abbrev cX3_readBoth : ByteArray := prog_5_method_5_code
def yX3_readBoth : MethodName := ⟨RX3, "readBoth", "(I)V"⟩
abbrev cX3_readNot : ByteArray := prog_5_method_6_code
def yX3_readNot : MethodName := ⟨RX3, "readNot", "(I)V"⟩
abbrev cX3_readSum : ByteArray := prog_5_method_7_code
def yX3_readSum : MethodName := ⟨RX3, "readSum", "(I)V"⟩
abbrev cX3_readTerm : ByteArray := prog_5_method_8_code
def yX3_readTerm : MethodName := ⟨RX3, "readTerm", "(I)V"⟩
abbrev cX3_readOne : ByteArray := prog_5_method_9_code
def yX3_readOne : MethodName := ⟨RX3, "readOne", "(I)V"⟩
abbrev cX3_expect : ByteArray := prog_5_method_10_code
def yX3_expect : MethodName := ⟨RX3, "expect", "(I)V"⟩
abbrev cX3_refuse : ByteArray := prog_5_method_11_code
def yX3_refuse : MethodName := ⟨RX3, "refuse", "()V"⟩
abbrev cX3_write : ByteArray := prog_5_method_12_code
def yX3_write : MethodName := ⟨RX3, "write", "(I)V"⟩
abbrev cX3_advance : ByteArray := prog_5_method_13_code
def yX3_advance : MethodName := ⟨RX3, "advance", "()V"⟩
abbrev cX3_takeWord : ByteArray := prog_5_method_14_code
def yX3_takeWord : MethodName := ⟨RX3, "takeWord", "()V"⟩
abbrev cX3_takeNumber : ByteArray := prog_5_method_15_code
def yX3_takeNumber : MethodName := ⟨RX3, "takeNumber", "()V"⟩
abbrev cX3_wordOnTape : ByteArray := prog_5_method_16_code
def yX3_wordOnTape : MethodName := ⟨RX3, "wordOnTape", "()I"⟩
abbrev cX3_isOnTape : ByteArray := prog_5_method_17_code
def yX3_isOnTape : MethodName := ⟨RX3, "isOnTape", "(II)Z"⟩
abbrev cX3_isLetter : ByteArray := prog_5_method_18_code
def yX3_isLetter : MethodName := ⟨RX3, "isLetter", "(I)Z"⟩
abbrev cX3_isDigit : ByteArray := prog_5_method_19_code
def yX3_isDigit : MethodName := ⟨RX3, "isDigit", "(I)Z"⟩
abbrev cX3_isSign : ByteArray := prog_5_method_20_code
def yX3_isSign : MethodName := ⟨RX3, "isSign", "(I)Z"⟩
def RX4 : String := "NeverSeen$Sheet"
def TX4 : u_T := fun k => match k with
  | 0 => ("NeverSeen$Sheet", "sort", "I", false)
  | 1 => ("NeverSeen$Sheet", "size", "I", false)
  | _ => ("NeverSeen$Sheet", "items", "[I", true)
def tyX4 : Nat → FieldType := fun k => match k with
  | 0 => .int
  | 1 => .int
  | _ => .array .int
theorem nmX4 : ∀ a, a < 3 → ∀ b, b < 3 → a ≠ b → (TX4 a).2.1 ≠ (TX4 b).2.1 := by decide +kernel
theorem tyX4_ok : ∀ k, k < 3 → parseFieldDescriptor (TX4 k).2.2.1 = some (tyX4 k) := by decide +kernel
abbrev cX4_init : ByteArray := prog_6_method_1_code
def yX4_init : MethodName := ⟨RX4, "<init>", "()V"⟩
abbrev cX4_isMissing : ByteArray := prog_6_method_2_code
def yX4_isMissing : MethodName := ⟨RX4, "isMissing", "()Z"⟩
abbrev cX4_become : ByteArray := prog_6_method_3_code
def yX4_become : MethodName := ⟨RX4, "become", "(II)V"⟩
abbrev cX4_put : ByteArray := prog_6_method_4_code
def yX4_put : MethodName := ⟨RX4, "put", "(II)V"⟩
abbrev cX4_has : ByteArray := prog_6_method_5_code
def yX4_has : MethodName := ⟨RX4, "has", "(II)Z"⟩
def RX5 : String := "NeverSeen$Ways"
def TX5 : u_T := fun k => match k with
  | 0 => ("NeverSeen$Ways", "next", "[I", true)
  | _ => ("NeverSeen$Ways", "laidFor", "I", false)
def tyX5 : Nat → FieldType := fun k => match k with
  | 0 => .array .int
  | _ => .int
theorem nmX5 : ∀ a, a < 2 → ∀ b, b < 2 → a ≠ b → (TX5 a).2.1 ≠ (TX5 b).2.1 := by decide +kernel
theorem tyX5_ok : ∀ k, k < 2 → parseFieldDescriptor (TX5 k).2.2.1 = some (tyX5 k) := by decide +kernel
abbrev cX5_init : ByteArray := prog_7_method_1_code
def yX5_init : MethodName := ⟨RX5, "<init>", "()V"⟩
abbrev cX5_far : ByteArray := prog_7_method_2_code
def yX5_far : MethodName := ⟨RX5, "far", "(III)I"⟩
abbrev cX5_nextRoom : ByteArray := prog_7_method_3_code
def yX5_nextRoom : MethodName := ⟨RX5, "nextRoom", "(III)I"⟩
abbrev cX5_lay : ByteArray := prog_7_method_4_code
def yX5_lay : MethodName := ⟨RX5, "lay", "(I)V"⟩
abbrev cX5_nextLaid : ByteArray := prog_7_method_5_code
def yX5_nextLaid : MethodName := ⟨RX5, "nextLaid", "(II)I"⟩
def RX6 : String := "NeverSeen$Wording"
def TX6 : u_T := fun k => match k with
  | 0 => ("NeverSeen$Wording", "code", "[I", true)
  | _ => ("NeverSeen$Wording", "ends", "[I", true)
def tyX6 : Nat → FieldType := fun k => match k with
  | 0 => .array .int
  | _ => .array .int
theorem nmX6 : ∀ a, a < 2 → ∀ b, b < 2 → a ≠ b → (TX6 a).2.1 ≠ (TX6 b).2.1 := by decide +kernel
theorem tyX6_ok : ∀ k, k < 2 → parseFieldDescriptor (TX6 k).2.2.1 = some (tyX6 k) := by decide +kernel
abbrev cX6_init : ByteArray := prog_8_method_1_code
def yX6_init : MethodName := ⟨RX6, "<init>", "()V"⟩
abbrev cX6_become : ByteArray := prog_8_method_2_code
def yX6_become : MethodName := ⟨RX6, "become", "([I[I)V"⟩
abbrev cX6_value : ByteArray := prog_8_method_3_code
def yX6_value : MethodName := ⟨RX6, "value", "(I[I[I)I"⟩
abbrev cX6_joined : ByteArray := prog_8_method_4_code
def yX6_joined : MethodName := ⟨RX6, "joined", "(III)I"⟩
def RX7 : String := "NeverSeen"
def TX7 : u_T := fun k => match k with
  | 0 => ("NeverSeen", "house", "LNeverSeen$House;", true)
  | 1 => ("NeverSeen", "kept", "LNeverSeen$House;", true)
  | 2 => ("NeverSeen", "would", "LNeverSeen$House;", true)
  | 3 => ("NeverSeen", "imaged", "Z", false)
  | 4 => ("NeverSeen", "reader", "LNeverSeen$Reader;", true)
  | 5 => ("NeverSeen", "texts", "[LNeverSeen$Wording;", true)
  | 6 => ("NeverSeen", "textCount", "I", false)
  | 7 => ("NeverSeen", "day", "LNeverSeen$Day;", true)
  | 8 => ("NeverSeen", "sheets", "[LNeverSeen$Sheet;", true)
  | _ => ("NeverSeen", "order", "[I", true)
def tyX7 : Nat → FieldType := fun k => match k with
  | 0 => .object "NeverSeen$House"
  | 1 => .object "NeverSeen$House"
  | 2 => .object "NeverSeen$House"
  | 3 => .boolean
  | 4 => .object "NeverSeen$Reader"
  | 5 => .array (.object "NeverSeen$Wording")
  | 6 => .int
  | 7 => .object "NeverSeen$Day"
  | 8 => .array (.object "NeverSeen$Sheet")
  | _ => .array .int
theorem nmX7 : ∀ a, a < 10 → ∀ b, b < 10 → a ≠ b → (TX7 a).2.1 ≠ (TX7 b).2.1 := by decide +kernel
theorem tyX7_ok : ∀ k, k < 10 → parseFieldDescriptor (TX7 k).2.2.1 = some (tyX7 k) := by decide +kernel
abbrev cX7_init : ByteArray := prog_1_method_1_code
def yX7_init : MethodName := ⟨RX7, "<init>", "()V"⟩
abbrev cX7_set : ByteArray := prog_1_method_2_code
def yX7_set : MethodName := ⟨RX7, "set", "(III)I"⟩
abbrev cX7_stay : ByteArray := prog_1_method_3_code
def yX7_stay : MethodName := ⟨RX7, "stay", "(II)I"⟩
abbrev cX7_maid : ByteArray := prog_1_method_4_code
def yX7_maid : MethodName := ⟨RX7, "maid", "(III)I"⟩
abbrev cX7_list : ByteArray := prog_1_method_5_code
def yX7_list : MethodName := ⟨RX7, "list", "(II)I"⟩
abbrev cX7_clear : ByteArray := prog_1_method_6_code
def yX7_clear : MethodName := ⟨RX7, "clear", "(I)I"⟩
abbrev cX7_told : ByteArray := prog_1_method_7_code
def yX7_told : MethodName := ⟨RX7, "told", "(II)I"⟩
abbrev cX7_toldOfMaid : ByteArray := prog_1_method_8_code
def yX7_toldOfMaid : MethodName := ⟨RX7, "toldOfMaid", "(LNeverSeen$Maid;I)I"⟩
abbrev cX7_way : ByteArray := prog_1_method_9_code
def yX7_way : MethodName := ⟨RX7, "way", "(III)I"⟩
abbrev cX7_feed : ByteArray := prog_1_method_10_code
def yX7_feed : MethodName := ⟨RX7, "feed", "(I)I"⟩
abbrev cX7_text : ByteArray := prog_1_method_11_code
def yX7_text : MethodName := ⟨RX7, "text", "()I"⟩
abbrev cX7_force : ByteArray := prog_1_method_12_code
def yX7_force : MethodName := ⟨RX7, "force", "(I)I"⟩
abbrev cX7_master : ByteArray := prog_1_method_13_code
def yX7_master : MethodName := ⟨RX7, "master", "(I)I"⟩
abbrev cX7_free : ByteArray := prog_1_method_14_code
def yX7_free : MethodName := ⟨RX7, "free", "(II)I"⟩
abbrev cX7_longest : ByteArray := prog_1_method_15_code
def yX7_longest : MethodName := ⟨RX7, "longest", "(II)I"⟩
abbrev cX7_never : ByteArray := prog_1_method_16_code
def yX7_never : MethodName := ⟨RX7, "never", "(I)I"⟩
abbrev cX7_longestFree : ByteArray := prog_1_method_17_code
def yX7_longestFree : MethodName := ⟨RX7, "longestFree", "(II)I"⟩
abbrev cX7_morning : ByteArray := prog_1_method_18_code
def yX7_morning : MethodName := ⟨RX7, "morning", "(II)I"⟩
abbrev cX7_isAskedOfMorning : ByteArray := prog_1_method_19_code
def yX7_isAskedOfMorning : MethodName := ⟨RX7, "isAskedOfMorning", "(I)Z"⟩
abbrev cX7_best : ByteArray := prog_1_method_20_code
def yX7_best : MethodName := ⟨RX7, "best", "(II)I"⟩
abbrev cX7_firstOrder : ByteArray := prog_1_method_21_code
def yX7_firstOrder : MethodName := ⟨RX7, "firstOrder", "(I)I"⟩
abbrev cX7_nextOrder : ByteArray := prog_1_method_22_code
def yX7_nextOrder : MethodName := ⟨RX7, "nextOrder", "(I)V"⟩
abbrev cX7_swapPlaces : ByteArray := prog_1_method_23_code
def yX7_swapPlaces : MethodName := ⟨RX7, "swapPlaces", "(II)V"⟩
abbrev cX7_begin : ByteArray := prog_1_method_24_code
def yX7_begin : MethodName := ⟨RX7, "begin", "(II)I"⟩
abbrev cX7_home : ByteArray := prog_1_method_25_code
def yX7_home : MethodName := ⟨RX7, "home", "(I)I"⟩
abbrev cX7_stairs : ByteArray := prog_1_method_26_code
def yX7_stairs : MethodName := ⟨RX7, "stairs", "()I"⟩
abbrev cX7_from : ByteArray := prog_1_method_27_code
def yX7_from : MethodName := ⟨RX7, "from", "(II)I"⟩
abbrev cX7_isTold : ByteArray := prog_1_method_28_code
def yX7_isTold : MethodName := ⟨RX7, "isTold", "(LNeverSeen$Sheet;I)Z"⟩
abbrev cX7_door : ByteArray := prog_1_method_29_code
def yX7_door : MethodName := ⟨RX7, "door", "(III)I"⟩
abbrev cX7_doorChoices : ByteArray := prog_1_method_30_code
def yX7_doorChoices : MethodName := ⟨RX7, "doorChoices", "(I)I"⟩
abbrev cX7_isSeenFromDoor : ByteArray := prog_1_method_31_code
def yX7_isSeenFromDoor : MethodName := ⟨RX7, "isSeenFromDoor", "(LNeverSeen$Sheet;I)Z"⟩
abbrev cX7_film : ByteArray := prog_1_method_32_code
def yX7_film : MethodName := ⟨RX7, "film", "(III)I"⟩
abbrev cX7_drawn : ByteArray := prog_1_method_33_code
def yX7_drawn : MethodName := ⟨RX7, "drawn", "(I)I"⟩
abbrev cX7_chance : ByteArray := prog_1_method_34_code
def yX7_chance : MethodName := ⟨RX7, "chance", "(III)J"⟩
abbrev cX7_inLowestTerms : ByteArray := prog_1_method_35_code
def yX7_inLowestTerms : MethodName := ⟨RX7, "inLowestTerms", "(III)I"⟩
abbrev cX7_image : ByteArray := prog_1_method_36_code
def yX7_image : MethodName := ⟨RX7, "image", "()I"⟩
abbrev cX7_back : ByteArray := prog_1_method_37_code
def yX7_back : MethodName := ⟨RX7, "back", "()I"⟩
abbrev cX7_count : ByteArray := prog_1_method_38_code
def yX7_count : MethodName := ⟨RX7, "count", "(I)I"⟩
abbrev cX7_sheet : ByteArray := prog_1_method_39_code
def yX7_sheet : MethodName := ⟨RX7, "sheet", "(III)I"⟩
abbrev cX7_cell : ByteArray := prog_1_method_40_code
def yX7_cell : MethodName := ⟨RX7, "cell", "(III)I"⟩
abbrev cX7_copy : ByteArray := prog_1_method_41_code
def yX7_copy : MethodName := ⟨RX7, "copy", "(IIIII)I"⟩
abbrev cX7_maids : ByteArray := prog_1_method_42_code
def yX7_maids : MethodName := ⟨RX7, "maids", "(IIII)I"⟩
abbrev cX7_taken : ByteArray := prog_1_method_43_code
def yX7_taken : MethodName := ⟨RX7, "taken", "(II)I"⟩
abbrev cX7_within : ByteArray := prog_1_method_44_code
def yX7_within : MethodName := ⟨RX7, "within", "(II)Z"⟩
abbrev cX7_sum : ByteArray := prog_1_method_45_code
def yX7_sum : MethodName := ⟨RX7, "sum", "([I)I"⟩
def RX8 : String := "NeverSeenModel"
def TX8 : u_T := fun k => match k with
  | 0 => ("NeverSeenModel", "thrown", "I", false)
  | 1 => ("NeverSeenModel", "texts", "[I", true)
  | 2 => ("NeverSeenModel", "textSize", "[I", true)
  | 3 => ("NeverSeenModel", "textCount", "I", false)
  | 4 => ("NeverSeenModel", "rule", "I", false)
  | 5 => ("NeverSeenModel", "tape", "[I", true)
  | 6 => ("NeverSeenModel", "taped", "I", false)
  | 7 => ("NeverSeenModel", "stairWays", "I", false)
  | 8 => ("NeverSeenModel", "works", "[I", true)
  | 9 => ("NeverSeenModel", "stayRoom", "[I", true)
  | 10 => ("NeverSeenModel", "stayLong", "[I", true)
  | 11 => ("NeverSeenModel", "stayMany", "I", false)
  | 12 => ("NeverSeenModel", "kinds", "[I", true)
  | 13 => ("NeverSeenModel", "numbers", "[I", true)
  | 14 => ("NeverSeenModel", "begins", "[I", true)
  | 15 => ("NeverSeenModel", "lists", "[I", true)
  | 16 => ("NeverSeenModel", "listMany", "[I", true)
  | 17 => ("NeverSeenModel", "maidMany", "I", false)
  | 18 => ("NeverSeenModel", "absent", "I", false)
  | 19 => ("NeverSeenModel", "farTable", "[I", true)
  | 20 => ("NeverSeenModel", "longestAt", "I", false)
  | 21 => ("NeverSeenModel", "ofMinute", "I", false)
  | 22 => ("NeverSeenModel", "ofRoom", "I", false)
  | 23 => ("NeverSeenModel", "ofLeft", "I", false)
  | 24 => ("NeverSeenModel", "ofNumber", "I", false)
  | 25 => ("NeverSeenModel", "ofBeside", "I", false)
  | 26 => ("NeverSeenModel", "ofMaids", "I", false)
  | 27 => ("NeverSeenModel", "from", "I", false)
  | 28 => ("NeverSeenModel", "size", "I", false)
  | 29 => ("NeverSeenModel", "here", "I", false)
  | 30 => ("NeverSeenModel", "token", "I", false)
  | 31 => ("NeverSeenModel", "tokenAt", "I", false)
  | 32 => ("NeverSeenModel", "tokenWorth", "J", false)
  | 33 => ("NeverSeenModel", "open", "I", false)
  | 34 => ("NeverSeenModel", "bad", "Z", false)
  | 35 => ("NeverSeenModel", "fault", "I", false)
  | 36 => ("NeverSeenModel", "roomNow", "[I", true)
  | 37 => ("NeverSeenModel", "wayLeft", "[I", true)
  | 38 => ("NeverSeenModel", "wayTo", "[I", true)
  | 39 => ("NeverSeenModel", "listAt", "[I", true)
  | 40 => ("NeverSeenModel", "seenFor", "[I", true)
  | 41 => ("NeverSeenModel", "waited", "[I", true)
  | 42 => ("NeverSeenModel", "leftNow", "[I", true)
  | 43 => ("NeverSeenModel", "shillings", "I", false)
  | 44 => ("NeverSeenModel", "ready", "I", false)
  | 45 => ("NeverSeenModel", "listWas", "[I", true)
  | 46 => ("NeverSeenModel", "bestDear", "I", false)
  | 47 => ("NeverSeenModel", "bestDigits", "I", false)
  | 48 => ("NeverSeenModel", "longWas", "[I", true)
  | 49 => ("NeverSeenModel", "houseKept", "[I", true)
  | 50 => ("NeverSeenModel", "maidsKept", "[I", true)
  | 51 => ("NeverSeenModel", "manyKept", "I", false)
  | 52 => ("NeverSeenModel", "stairsKept", "I", false)
  | 53 => ("NeverSeenModel", "staysKept", "I", false)
  | 54 => ("NeverSeenModel", "ruleKept", "I", false)
  | 55 => ("NeverSeenModel", "isThere", "[Z", true)
  | 56 => ("NeverSeenModel", "sorts", "[I", true)
  | 57 => ("NeverSeenModel", "sheetSize", "[I", true)
  | _ => ("NeverSeenModel", "items", "[I", true)
def tyX8 : Nat → FieldType := fun k => match k with
  | 0 => .int
  | 1 => .array .int
  | 2 => .array .int
  | 3 => .int
  | 4 => .int
  | 5 => .array .int
  | 6 => .int
  | 7 => .int
  | 8 => .array .int
  | 9 => .array .int
  | 10 => .array .int
  | 11 => .int
  | 12 => .array .int
  | 13 => .array .int
  | 14 => .array .int
  | 15 => .array .int
  | 16 => .array .int
  | 17 => .int
  | 18 => .int
  | 19 => .array .int
  | 20 => .int
  | 21 => .int
  | 22 => .int
  | 23 => .int
  | 24 => .int
  | 25 => .int
  | 26 => .int
  | 27 => .int
  | 28 => .int
  | 29 => .int
  | 30 => .int
  | 31 => .int
  | 32 => .long
  | 33 => .int
  | 34 => .boolean
  | 35 => .int
  | 36 => .array .int
  | 37 => .array .int
  | 38 => .array .int
  | 39 => .array .int
  | 40 => .array .int
  | 41 => .array .int
  | 42 => .array .int
  | 43 => .int
  | 44 => .int
  | 45 => .array .int
  | 46 => .int
  | 47 => .int
  | 48 => .array .int
  | 49 => .array .int
  | 50 => .array .int
  | 51 => .int
  | 52 => .int
  | 53 => .int
  | 54 => .int
  | 55 => .array .boolean
  | 56 => .array .int
  | 57 => .array .int
  | _ => .array .int
theorem nmX8 : ∀ a, a < 59 → ∀ b, b < 59 → a ≠ b → (TX8 a).2.1 ≠ (TX8 b).2.1 := by decide +kernel
theorem tyX8_ok : ∀ k, k < 59 → parseFieldDescriptor (TX8 k).2.2.1 = some (tyX8 k) := by decide +kernel
abbrev cX8_in : ByteArray := prog_10_method_2_code
def yX8_in : MethodName := ⟨RX8, "in", "(JJJ)Z"⟩
abbrev cX8_within : ByteArray := prog_10_method_3_code
def yX8_within : MethodName := ⟨RX8, "within", "(III)I"⟩
abbrev cX8_init : ByteArray := prog_10_method_4_code
def yX8_init : MethodName := ⟨RX8, "<init>", "()V"⟩
abbrev cX8_spell : ByteArray := prog_10_method_5_code
def yX8_spell : MethodName := ⟨RX8, "spell", "(IIIIIIIII)V"⟩
abbrev cX8_isRoom : ByteArray := prog_10_method_6_code
def yX8_isRoom : MethodName := ⟨RX8, "isRoom", "(I)Z"⟩
abbrev cX8_isMaid : ByteArray := prog_10_method_7_code
def yX8_isMaid : MethodName := ⟨RX8, "isMaid", "(I)Z"⟩
abbrev cX8_isStay : ByteArray := prog_10_method_8_code
def yX8_isStay : MethodName := ⟨RX8, "isStay", "(I)Z"⟩
abbrev cX8_isOf : ByteArray := prog_10_method_9_code
def yX8_isOf : MethodName := ⟨RX8, "isOf", "(II)Z"⟩
abbrev cX8_set : ByteArray := prog_10_method_10_code
def yX8_set : MethodName := ⟨RX8, "set", "(III)I"⟩
abbrev cX8_lays : ByteArray := prog_10_method_11_code
def yX8_lays : MethodName := ⟨RX8, "lays", "(III)V"⟩
abbrev cX8_stay : ByteArray := prog_10_method_12_code
def yX8_stay : MethodName := ⟨RX8, "stay", "(II)I"⟩
abbrev cX8_maid : ByteArray := prog_10_method_13_code
def yX8_maid : MethodName := ⟨RX8, "maid", "(III)I"⟩
abbrev cX8_list : ByteArray := prog_10_method_14_code
def yX8_list : MethodName := ⟨RX8, "list", "(II)I"⟩
abbrev cX8_clear : ByteArray := prog_10_method_15_code
def yX8_clear : MethodName := ⟨RX8, "clear", "(I)I"⟩
abbrev cX8_told : ByteArray := prog_10_method_16_code
def yX8_told : MethodName := ⟨RX8, "told", "(II)I"⟩
abbrev cX8_isBeside : ByteArray := prog_10_method_17_code
def yX8_isBeside : MethodName := ⟨RX8, "isBeside", "(II)Z"⟩
abbrev cX8_gathers : ByteArray := prog_10_method_18_code
def yX8_gathers : MethodName := ⟨RX8, "gathers", "()V"⟩
abbrev cX8_nextTo : ByteArray := prog_10_method_19_code
def yX8_nextTo : MethodName := ⟨RX8, "nextTo", "(II)I"⟩
abbrev cX8_way : ByteArray := prog_10_method_20_code
def yX8_way : MethodName := ⟨RX8, "way", "(III)I"⟩
abbrev cX8_masterIn : ByteArray := prog_10_method_21_code
def yX8_masterIn : MethodName := ⟨RX8, "masterIn", "(I)I"⟩
abbrev cX8_master : ByteArray := prog_10_method_22_code
def yX8_master : MethodName := ⟨RX8, "master", "(I)I"⟩
abbrev cX8_free : ByteArray := prog_10_method_23_code
def yX8_free : MethodName := ⟨RX8, "free", "(II)I"⟩
abbrev cX8_longestOf : ByteArray := prog_10_method_24_code
def yX8_longestOf : MethodName := ⟨RX8, "longestOf", "(I)I"⟩
abbrev cX8_longest : ByteArray := prog_10_method_25_code
def yX8_longest : MethodName := ⟨RX8, "longest", "(II)I"⟩
abbrev cX8_never : ByteArray := prog_10_method_26_code
def yX8_never : MethodName := ⟨RX8, "never", "(I)I"⟩
abbrev cX8_feed : ByteArray := prog_10_method_27_code
def yX8_feed : MethodName := ⟨RX8, "feed", "(I)I"⟩
abbrev cX8_byteAt : ByteArray := prog_10_method_28_code
def yX8_byteAt : MethodName := ⟨RX8, "byteAt", "(I)I"⟩
abbrev cX8_next : ByteArray := prog_10_method_29_code
def yX8_next : MethodName := ⟨RX8, "next", "()V"⟩
abbrev cX8_fail : ByteArray := prog_10_method_30_code
def yX8_fail : MethodName := ⟨RX8, "fail", "()V"⟩
abbrev cX8_isLetter : ByteArray := prog_10_method_31_code
def yX8_isLetter : MethodName := ⟨RX8, "isLetter", "(II)Z"⟩
abbrev cX8_isWord : ByteArray := prog_10_method_32_code
def yX8_isWord : MethodName := ⟨RX8, "isWord", "(IIIIIIII)Z"⟩
abbrev cX8_isSign : ByteArray := prog_10_method_33_code
def yX8_isSign : MethodName := ⟨RX8, "isSign", "(I)Z"⟩
abbrev cX8_opens : ByteArray := prog_10_method_34_code
def yX8_opens : MethodName := ⟨RX8, "opens", "()Z"⟩
abbrev cX8_name : ByteArray := prog_10_method_35_code
def yX8_name : MethodName := ⟨RX8, "name", "()I"⟩
abbrev cX8_atom : ByteArray := prog_10_method_36_code
def yX8_atom : MethodName := ⟨RX8, "atom", "()I"⟩
abbrev cX8_term : ByteArray := prog_10_method_37_code
def yX8_term : MethodName := ⟨RX8, "term", "()I"⟩
abbrev cX8_added : ByteArray := prog_10_method_38_code
def yX8_added : MethodName := ⟨RX8, "added", "()I"⟩
abbrev cX8_not : ByteArray := prog_10_method_39_code
def yX8_not : MethodName := ⟨RX8, "not", "()I"⟩
abbrev cX8_both : ByteArray := prog_10_method_40_code
def yX8_both : MethodName := ⟨RX8, "both", "()I"⟩
abbrev cX8_either : ByteArray := prog_10_method_41_code
def yX8_either : MethodName := ⟨RX8, "either", "()I"⟩
abbrev cX8_part : ByteArray := prog_10_method_42_code
def yX8_part : MethodName := ⟨RX8, "part", "(Z)I"⟩
abbrev cX8_read : ByteArray := prog_10_method_43_code
def yX8_read : MethodName := ⟨RX8, "read", "(II)I"⟩
abbrev cX8_text : ByteArray := prog_10_method_44_code
def yX8_text : MethodName := ⟨RX8, "text", "()I"⟩
abbrev cX8_force : ByteArray := prog_10_method_45_code
def yX8_force : MethodName := ⟨RX8, "force", "(I)I"⟩
abbrev cX8_says : ByteArray := prog_10_method_46_code
def yX8_says : MethodName := ⟨RX8, "says", "(IIII)I"⟩
abbrev cX8_takesOf : ByteArray := prog_10_method_47_code
def yX8_takesOf : MethodName := ⟨RX8, "takesOf", "(II)I"⟩
abbrev cX8_worksOf : ByteArray := prog_10_method_48_code
def yX8_worksOf : MethodName := ⟨RX8, "worksOf", "(II)I"⟩
abbrev cX8_aimOf : ByteArray := prog_10_method_49_code
def yX8_aimOf : MethodName := ⟨RX8, "aimOf", "(I)I"⟩
abbrev cX8_startsOff : ByteArray := prog_10_method_50_code
def yX8_startsOff : MethodName := ⟨RX8, "startsOff", "()V"⟩
abbrev cX8_acts : ByteArray := prog_10_method_51_code
def yX8_acts : MethodName := ⟨RX8, "acts", "(II)V"⟩
abbrev cX8_isReady : ByteArray := prog_10_method_52_code
def yX8_isReady : MethodName := ⟨RX8, "isReady", "()Z"⟩
abbrev cX8_lives : ByteArray := prog_10_method_53_code
def yX8_lives : MethodName := ⟨RX8, "lives", "(I)V"⟩
abbrev cX8_livesAll : ByteArray := prog_10_method_54_code
def yX8_livesAll : MethodName := ⟨RX8, "livesAll", "(I)V"⟩
abbrev cX8_leftAll : ByteArray := prog_10_method_55_code
def yX8_leftAll : MethodName := ⟨RX8, "leftAll", "()I"⟩
abbrev cX8_dear : ByteArray := prog_10_method_56_code
def yX8_dear : MethodName := ⟨RX8, "dear", "()I"⟩
abbrev cX8_morning : ByteArray := prog_10_method_57_code
def yX8_morning : MethodName := ⟨RX8, "morning", "(II)I"⟩
abbrev cX8_orders : ByteArray := prog_10_method_58_code
def yX8_orders : MethodName := ⟨RX8, "orders", "(III)V"⟩
abbrev cX8_best : ByteArray := prog_10_method_59_code
def yX8_best : MethodName := ⟨RX8, "best", "(II)I"⟩
abbrev cX8_begin : ByteArray := prog_10_method_60_code
def yX8_begin : MethodName := ⟨RX8, "begin", "(II)I"⟩
abbrev cX8_home : ByteArray := prog_10_method_61_code
def yX8_home : MethodName := ⟨RX8, "home", "(I)I"⟩
abbrev cX8_stairs : ByteArray := prog_10_method_62_code
def yX8_stairs : MethodName := ⟨RX8, "stairs", "()I"⟩
abbrev cX8_from : ByteArray := prog_10_method_63_code
def yX8_from : MethodName := ⟨RX8, "from", "(II)I"⟩
abbrev cX8_isSo : ByteArray := prog_10_method_64_code
def yX8_isSo : MethodName := ⟨RX8, "isSo", "(II)Z"⟩
abbrev cX8_tries : ByteArray := prog_10_method_65_code
def yX8_tries : MethodName := ⟨RX8, "tries", "(III)V"⟩
abbrev cX8_door : ByteArray := prog_10_method_66_code
def yX8_door : MethodName := ⟨RX8, "door", "(III)I"⟩
abbrev cX8_film : ByteArray := prog_10_method_67_code
def yX8_film : MethodName := ⟨RX8, "film", "(III)I"⟩
abbrev cX8_draws : ByteArray := prog_10_method_68_code
def yX8_draws : MethodName := ⟨RX8, "draws", "(I)I"⟩
abbrev cX8_drawn : ByteArray := prog_10_method_69_code
def yX8_drawn : MethodName := ⟨RX8, "drawn", "(I)I"⟩
abbrev cX8_chance : ByteArray := prog_10_method_70_code
def yX8_chance : MethodName := ⟨RX8, "chance", "(III)J"⟩
abbrev cX8_image : ByteArray := prog_10_method_71_code
def yX8_image : MethodName := ⟨RX8, "image", "()I"⟩
abbrev cX8_back : ByteArray := prog_10_method_72_code
def yX8_back : MethodName := ⟨RX8, "back", "()I"⟩
abbrev cX8_count : ByteArray := prog_10_method_73_code
def yX8_count : MethodName := ⟨RX8, "count", "(I)I"⟩
abbrev cX8_isSheet : ByteArray := prog_10_method_74_code
def yX8_isSheet : MethodName := ⟨RX8, "isSheet", "(I)Z"⟩
abbrev cX8_sheet : ByteArray := prog_10_method_75_code
def yX8_sheet : MethodName := ⟨RX8, "sheet", "(III)I"⟩
abbrev cX8_cell : ByteArray := prog_10_method_76_code
def yX8_cell : MethodName := ⟨RX8, "cell", "(III)I"⟩
abbrev cX8_copy : ByteArray := prog_10_method_77_code
def yX8_copy : MethodName := ⟨RX8, "copy", "(IIIII)I"⟩
abbrev cX8_maids : ByteArray := prog_10_method_78_code
def yX8_maids : MethodName := ⟨RX8, "maids", "(IIII)I"⟩
abbrev cX8_over : ByteArray := prog_10_method_79_code
def yX8_over : MethodName := ⟨RX8, "over", "(I)I"⟩
abbrev cX8_taken : ByteArray := prog_10_method_80_code
def yX8_taken : MethodName := ⟨RX8, "taken", "(II)I"⟩
def RJ9 : String := "java/lang/Math"
abbrev cJ9_abs_0f7a4 : ByteArray := prog_11_method_59_code
def yJ9_abs_0f7a4 : MethodName := ⟨RJ9, "abs", "(I)I"⟩
abbrev cJ9_max_7cf53 : ByteArray := prog_11_method_65_code
def yJ9_max_7cf53 : MethodName := ⟨RJ9, "max", "(II)I"⟩
abbrev cJ9_min_7cf53 : ByteArray := prog_11_method_69_code
def yJ9_min_7cf53 : MethodName := ⟨RJ9, "min", "(II)I"⟩
def RJ0 : String := "java/lang/String"
abbrev cJ0_length_8abf5 : ByteArray := prog_12_method_54_code
def yJ0_length_8abf5 : MethodName := ⟨RJ0, "length", "()I"⟩
abbrev cJ0_charAt_5068e : ByteArray := prog_12_method_56_code
def yJ0_charAt_5068e : MethodName := ⟨RJ0, "charAt", "(I)C"⟩
abbrev cJ0_coder_7d493 : ByteArray := prog_12_method_152_code
def yJ0_coder_7d493 : MethodName := ⟨RJ0, "coder", "()B"⟩
abbrev cJ0_isLatin1_aae02 : ByteArray := prog_12_method_154_code
def yJ0_isLatin1_aae02 : MethodName := ⟨RJ0, "isLatin1", "()Z"⟩
abbrev cJ0_checkIndex_df160 : ByteArray := prog_12_method_155_code
def yJ0_checkIndex_df160 : MethodName := ⟨RJ0, "checkIndex", "(II)V"⟩
def RJ1 : String := "java/lang/StringLatin1"
abbrev cJ1_charAt_3b067 : ByteArray := prog_13_method_2_code
def yJ1_charAt_3b067 : MethodName := ⟨RJ1, "charAt", "([BI)C"⟩
def RJ2 : String := "java/lang/StringUTF16"
abbrev cJ2_getChar_3b067 : ByteArray := prog_14_method_5_code
def yJ2_getChar_3b067 : MethodName := ⟨RJ2, "getChar", "([BI)C"⟩
abbrev cJ2_length_9d52b : ByteArray := prog_14_method_6_code
def yJ2_length_9d52b : MethodName := ⟨RJ2, "length", "([B)I"⟩
abbrev cJ2_charAt_3b067 : ByteArray := prog_14_method_83_code
def yJ2_charAt_3b067 : MethodName := ⟨RJ2, "charAt", "([BI)C"⟩
abbrev cJ2_checkIndex_2214a : ByteArray := prog_14_method_91_code
def yJ2_checkIndex_2214a : MethodName := ⟨RJ2, "checkIndex", "(I[B)V"⟩
def RJ10 : String := "java/lang/System"
def RJ3 : String := "jdk/internal/util/Preconditions"
abbrev cJ3_checkIndex_8e157 : ByteArray := prog_16_method_11_code
def yJ3_checkIndex_8e157 : MethodName := ⟨RJ3, "checkIndex", "(IILjava/util/function/BiFunction;)I"⟩
def RL : String := "NeverSeenLaw"
abbrev vwCl : List vw_C := [(RX0, TX0, 15), (RX1, TX1, 8), (RX2, TX2, 5), (RX3, TX3, 10), (RX4, TX4, 3), (RX5, TX5, 2), (RX6, TX6, 2), (RX7, TX7, 10), (RX8, TX8, 59)]
def nstM : List (String × Nat × MethodName × String) := [("NeverSeen$House", 40, ⟨"NeverSeen$Maid", "<init>", "()V"⟩, "NeverSeen"), ("NeverSeen", 28, ⟨"NeverSeen$Reader", "<init>", "()V"⟩, "NeverSeen"), ("NeverSeen$Day", 11, ⟨"NeverSeen$Ways", "<init>", "()V"⟩, "NeverSeen"), ("NeverSeen", 62, ⟨"NeverSeen$Wording", "<init>", "()V"⟩, "NeverSeen"), ("NeverSeen", 63, ⟨"NeverSeen$Sheet", "<init>", "()V"⟩, "NeverSeen"), ("NeverSeen$Reader", 77, ⟨"NeverSeen", "within", "(II)Z"⟩, "NeverSeen"), ("NeverSeen$Maid", 34, ⟨"NeverSeen", "within", "(II)Z"⟩, "NeverSeen"), ("NeverSeen$House", 51, ⟨"NeverSeen", "within", "(II)Z"⟩, "NeverSeen"), ("NeverSeen$Ways", 36, ⟨"NeverSeen", "within", "(II)Z"⟩, "NeverSeen"), ("NeverSeen$Day", 165, ⟨"NeverSeen", "within", "(II)Z"⟩, "NeverSeen"), ("NeverSeen$Day", 161, ⟨"NeverSeen", "sum", "([I)I"⟩, "NeverSeen"), ("NeverSeen$Sheet", 22, ⟨"NeverSeen", "within", "(II)Z"⟩, "NeverSeen")]
def nstF : List (String × Nat × String × String × String × String) := [("NeverSeen$Maid", 38, "NeverSeen", "UNDER", "[I", "NeverSeen")]
theorem nstM_in : ∀ q ∈ nstM, Cond.methodLinkNest q.1 q.2.1 q.2.2.1 q.2.2.2 ∈ lw_tbl := by decide +kernel
theorem nstF_in : ∀ q ∈ nstF, Cond.fieldLinkNest q.1 q.2.1 q.2.2.1 q.2.2.2.1 q.2.2.2.2.1 q.2.2.2.2.2 ∈ lw_tbl := by decide +kernel
/-- the words that stay true whatever is resolved -/
def lw_gd : List Cond := lw_tbl.filter goodWord
theorem gd_of {w : Cond} (h : w ∈ lw_tbl) (g : goodWord w = true) : w ∈ lw_gd := List.mem_filter.mpr ⟨h, g⟩
theorem gd_at {w : Cond} (i : Nat) (h : lw_tbl[i]? = some w) (g : goodWord w = true) : w ∈ lw_gd := gd_of (List.mem_of_getElem? h) g
theorem gd_good : GoodIn lw_gd lw_gd := fun w hw => ⟨hw, good_of_word (List.mem_filter.mp hw).2⟩
/-- the fields of every class of ours lie as the words say -/
theorem cl_words : ∀ r ∈ vwCl, ∀ w ∈ u_ws r.1 r.2.1 r.2.2, w ∈ lw_gd := by
  have h : (vwCl.all (fun r => (u_ws r.1 r.2.1 r.2.2).all (fun w => decide (w ∈ lw_tbl) && goodWord w))) = true := by decide +kernel
  intro r hr w hw
  have h1 := List.all_eq_true.mp (List.all_eq_true.mp h r hr) w hw
  simp only [Bool.and_eq_true, decide_eq_true_eq] at h1
  exact gd_of h1.1 h1.2
def vwTy : List (Nat → FieldType) := [tyX0, tyX1, tyX2, tyX3, tyX4, tyX5, tyX6, tyX7, tyX8]
def vty (ci : Nat) : Nat → FieldType := vwTy.getD ci tyX0
theorem vty_ok : ∀ ci, ci < 9 → ∀ r, vwCl[ci]? = some r → ∀ k, k < r.2.2 → parseFieldDescriptor (r.2.1 k).2.2.1 = some (vty ci k) := by
  intro ci hci r hr
  match ci, hci with
  | 0, _ => cases hr; exact tyX0_ok
  | 1, _ => cases hr; exact tyX1_ok
  | 2, _ => cases hr; exact tyX2_ok
  | 3, _ => cases hr; exact tyX3_ok
  | 4, _ => cases hr; exact tyX4_ok
  | 5, _ => cases hr; exact tyX5_ok
  | 6, _ => cases hr; exact tyX6_ok
  | 7, _ => cases hr; exact tyX7_ok
  | 8, _ => cases hr; exact tyX8_ok
theorem vnm_ok : ∀ ci, ci < 9 → ∀ r, vwCl[ci]? = some r → ∀ a, a < r.2.2 → ∀ b, b < r.2.2 → a ≠ b → (r.2.1 a).2.1 ≠ (r.2.1 b).2.1 := by
  intro ci hci r hr
  match ci, hci with
  | 0, _ => cases hr; exact nmX0
  | 1, _ => cases hr; exact nmX1
  | 2, _ => cases hr; exact nmX2
  | 3, _ => cases hr; exact nmX3
  | 4, _ => cases hr; exact nmX4
  | 5, _ => cases hr; exact nmX5
  | 6, _ => cases hr; exact nmX6
  | 7, _ => cases hr; exact nmX7
  | 8, _ => cases hr; exact nmX8
end
section
/-! 02: AN ABSTRACT MACHINE OVER NUMBERED CELLS. Cell k of the world lies at the address base + k; references ahead of 1000 are numbers of cells, from 1000 on what was there before. Memory: row k, place j. -/
abbrev Mem : Type := Nat → Nat → Int32
abbrev Pm : Type := Nat → Nat → Option Nat
/-- base address; classes; array classes; addresses of what was there before; the script -/
abbrev Wd : Type := Nat × va_G × (Nat → ClassId) × (Nat → Nat) × Nat × (Nat → Int32)
abbrev wSz (w : Wd) : Nat := w.1
abbrev wG (w : Wd) : va_G := w.2.1
abbrev wA (w : Wd) : Nat → ClassId := w.2.2.1
abbrev wX (w : Wd) : Nat → Nat := w.2.2.2.1
abbrev wL (w : Wd) : Nat := w.2.2.2.2.1
abbrev wS (w : Wd) : Nat → Int32 := w.2.2.2.2.2
def wad (w : Wd) (k : Nat) : Nat := if k < 1000 then wSz w + k else wX w (k - 1000)
def cv (w : Wd) : Value → Value
  | .ref k => .ref (wad w k)
  | .int x => .int x
  | .long x => .long x
  | .null => .null
  | v => v
theorem cv_cat (w : Wd) (v : Value) : (cv w v).category = v.category := by cases v <;> rfl
theorem cv_int {w : Wd} {v : Value} {x : Int32} (h : cv w v = .int x) : v = .int x := by cases v <;> simp [cv] at h <;> simp [h]
def lgc (hi lo : Int32) : Int64 := Int64.ofBitVec (hi.toBitVec ++ lo.toBitVec)
def lgHi (x : Int64) : Int32 := Int32.ofBitVec (x.toBitVec.extractLsb' 32 32)
def lgLo (x : Int64) : Int32 := Int32.ofBitVec (x.toBitVec.extractLsb' 0 32)
theorem lgc_eq (x : Int64) : lgc (lgHi x) (lgLo x) = x := by
  have e : (x.toBitVec.extractLsb' 32 32 ++ x.toBitVec.extractLsb' 0 32 : BitVec (32 + 32)) = x.toBitVec := by
    apply BitVec.eq_of_getLsbD_eq
    intro i hi
    rw [BitVec.getLsbD_append]
    by_cases h : i < 32
    · simp [h]
    · simp [h]
      rw [show 32 + (i - 32) = i by omega]
      have : i - 32 < 32 := by omega
      simp [this]
  unfold lgc lgHi lgLo
  exact congrArg Int64.ofBitVec e
/-- the cells, in the order in which they are made: class number and fields, or 20 + array class and length -/
def shp : List (Nat × Nat) := [(7, 10),
  (1, 8), (20, 8), (20, 8), (20, 8), (22, 4), (2, 5), (20, 5), (2, 5), (20, 5), (2, 5), (20, 5), (2, 5), (20, 5),
  (1, 8), (20, 8), (20, 8), (20, 8), (22, 4), (2, 5), (20, 5), (2, 5), (20, 5), (2, 5), (20, 5), (2, 5), (20, 5),
  (1, 8), (20, 8), (20, 8), (20, 8), (22, 4), (2, 5), (20, 5), (2, 5), (20, 5), (2, 5), (20, 5), (2, 5), (20, 5),
  (3, 10), (20, 160), (20, 160), (20, 3), (24, 6),
  (0, 15), (5, 2), (20, 64), (20, 6), (20, 160), (20, 4), (20, 4), (20, 4), (20, 4), (20, 4), (20, 4), (20, 8), (23, 4), (20, 5),
  (6, 2), (20, 160), (20, 3), (6, 2), (20, 160), (20, 3), (6, 2), (20, 160), (20, 3), (6, 2), (20, 160), (20, 3), (6, 2), (20, 160), (20, 3), (6, 2), (20, 160), (20, 3),
  (4, 3), (20, 40), (4, 3), (20, 40), (4, 3), (20, 40), (4, 3), (20, 40),
  (8, 59), (20, 960), (20, 6), (20, 160), (20, 8), (20, 8), (20, 8), (20, 4), (20, 4), (20, 4), (20, 20), (20, 4), (20, 64), (20, 4), (20, 4), (20, 4), (20, 4), (20, 4), (20, 4), (20, 8), (20, 5), (20, 8), (20, 24), (20, 32), (21, 4), (20, 4), (20, 4), (20, 160)]
def shf (k : Nat) : Nat × Nat := shp.getD k (20, 0)
/-- slots of the first n cells -/
def sln (n : Nat) : Nat := ((shp.take n).map (fun q => q.2)).sum
/-- a field's sort: 0 int or boolean, 1 reference, 2 long -/
def fso (ty : FieldType) : Nat := match ty with
  | .int => 0
  | .boolean => 0
  | .long => 2
  | _ => 1
def fvl (w : Wd) (M : Mem) (P : Pm) (ci k j : Nat) : Value := match fso (vty ci j) with
  | 0 => .int (M k j)
  | 2 => .long (lgc (M k (j + 100)) (M k j))
  | _ => va_rf ((P k j).map (wad w))
def ent (w : Wd) (M : Mem) (P : Pm) (k : Nat) : va_E :=
  if (shf k).1 < 20 then .inr ((shf k).1, (List.range (shf k).2).map (fvl w M P (shf k).1 k))
  else if (shf k).1 < 22 then .inl (wA w ((shf k).1 - 20), (shf k).2, .inl (M k))
  else .inl (wA w ((shf k).1 - 20), (shf k).2, .inr (.inr (.inr (.inr (fun j => (P k j).map (wad w))))))
def wsO (w : Wd) (n : Nat) (M : Mem) (P : Pm) : va_W := (List.range n).map (fun k => (wSz w + k, ent w M P k))
theorem wsO_at {w : Wd} {n k : Nat} {M : Mem} {P : Pm} (h : k < n) : (wsO w n M P)[k]? = some (wSz w + k, ent w M P k) := by simp [wsO, h]
theorem wsO_len {w : Wd} {n : Nat} {M : Mem} {P : Pm} : (wsO w n M P).length = n := by simp [wsO]
theorem wsO_D {w : Wd} {n : Nat} {M : Mem} {P : Pm} : va_D (fun q => wSz w ≤ q) (wsO w n M P) := by
  have key : ∀ (k : Nat) (q : Nat × va_E), (wsO w n M P)[k]? = some q → q.1 = wSz w + k := by
    intro k q h
    have hk : k < n := by have := (List.getElem?_eq_some_iff.mp h).1; rwa [wsO_len] at this
    rw [wsO_at hk] at h
    cases h
    rfl
  refine ⟨fun i j p q hp hq e => ?_, fun k q h => ?_⟩
  · have h1 := key i p hp
    have h2 := key j q hq
    omega
  · have h1 := key k q h
    show wSz w ≤ q.1
    omega
theorem wsO_ext {w : Wd} {n : Nat} {M M' : Mem} {P P' : Pm} (h : ∀ k, k < n → ent w M P k = ent w M' P' k) : wsO w n M P = wsO w n M' P' := by
  unfold wsO
  apply List.map_congr_left
  intro k hk
  rw [h k (List.mem_range.mp hk)]
theorem wsO_set {w : Wd} {n k : Nat} {M M' : Mem} {P P' : Pm} {e : va_E} (hk : k < n) (he : ent w M' P' k = e) (ho : ∀ q, q < n → q ≠ k → ent w M' P' q = ent w M P q) : (wsO w n M P).set k (wSz w + k, e) = wsO w n M' P' := by
  apply List.ext_getElem?
  intro i
  by_cases hi : i < n
  · rw [wsO_at hi]
    by_cases hik : k = i
    · subst hik
      rw [List.getElem?_set_self (by rw [wsO_len]; exact hi), he]
    · rw [List.getElem?_set_ne hik, wsO_at hi, ho i hi (fun z => hik z.symm)]
  · rw [List.getElem?_eq_none (by rw [List.length_set, wsO_len]; omega), List.getElem?_eq_none (by rw [wsO_len]; omega)]
theorem wsO_push {w : Wd} {n : Nat} {M : Mem} {P : Pm} : wsO w (n + 1) M P = wsO w n M P ++ [(wSz w + n, ent w M P n)] := by
  unfold wsO
  rw [List.range_succ, List.map_append]
  rfl
/-- a written place -/
def wr (M : Mem) (k j : Nat) (v : Int32) : Mem := fun a b => if a = k ∧ b = j then v else M a b
def wrP (P : Pm) (k j : Nat) (v : Option Nat) : Pm := fun a b => if a = k ∧ b = j then v else P a b
theorem wr_row {M : Mem} {k j : Nat} {v : Int32} : wr M k j v k = upd (M k) j v := by
  funext b
  simp [wr, upd]
theorem wr_ne {M : Mem} {k j a : Nat} {v : Int32} (h : a ≠ k) : wr M k j v a = M a := by
  funext b
  simp [wr, h]
theorem wr_same {M : Mem} {k j : Nat} {v : Int32} : wr M k j v k j = v := by simp [wr]
theorem wr_at {M : Mem} {k j b : Nat} {v : Int32} (h : b ≠ j) : wr M k j v k b = M k b := by simp [wr, h]
theorem wrP_ne {P : Pm} {k j a : Nat} {v : Option Nat} (h : a ≠ k) : wrP P k j v a = P a := by
  funext b
  simp [wrP, h]
/-! what holds of a state: classes, array classes, nest words, statics, texts, the script -/
def tysO (w : Wd) : List (ClassId × FieldType) := [(wA w 0, .int), (wA w 1, .boolean), (wA w 2, .object RX2), (wA w 3, .object RX4), (wA w 4, .object RX6)]
def ownStat : List (String × Nat × List Int32) := [("UNDER", 1, [-1, 0, 0, 1, 2, 0]), ("LEAST", 2, [0, 0, 0, 1, 0, 0]), ("MOST", 3, [3, 99, 7, 50, 9, 7])]
def txt0 : String := "steps 1 ; does 1 + maids ; costs 1 ;"
def txt1 : String := "minute room left number beside maids steps does costs or and not "
def txLen : List Nat := [36, 65]
def txByt : List (List Int32) := [[115, 116, 101, 112, 115, 32, 49, 32, 59, 32, 100, 111, 101, 115, 32, 49, 32, 43, 32, 109, 97, 105, 100, 115, 32, 59, 32, 99, 111, 115, 116, 115, 32, 49, 32, 59], [109, 105, 110, 117, 116, 101, 32, 114, 111, 111, 109, 32, 108, 101, 102, 116, 32, 110, 117, 109, 98, 101, 114, 32, 98, 101, 115, 105, 100, 101, 32, 109, 97, 105, 100, 115, 32, 115, 116, 101, 112, 115, 32, 100, 111, 101, 115, 32, 99, 111, 115, 116, 115, 32, 111, 114, 32, 97, 110, 100, 32, 110, 111, 116, 32]]
def GW (w : Wd) (U : State) : Prop :=
  va_K (wG w) vwCl (tysO w) U ∧
  ((∀ q ∈ nstM, va_Nw (.methodLinkNest q.1 q.2.1 q.2.2.1 q.2.2.2) U) ∧ (∀ q ∈ nstF, va_Nw (.fieldLinkNest q.1 q.2.1 q.2.2.1 q.2.2.2.1 q.2.2.2.2.1 q.2.2.2.2.2) U)) ∧
  (∀ q ∈ ownStat, va_Z RX7 q.1 "[I" (.ref (wX w q.2.1)) (fun q => wSz w ≤ q) U U.heap ∧ va_T .int (wX w q.2.1) 6 (fun j => .int (q.2.2.getD j 0)) (fun q => wSz w ≤ q) U U.heap) ∧
  (vk_R RX7 64 txt0 (wX w 4) U ∧ vk_R RX3 104 txt1 (wX w 5) U) ∧
  vk_S 2 txLen txByt (fun i => wX w (4 + i)) (fun i => wX w (6 + i)) (fun q => wSz w ≤ q) U U.heap ∧
  (va_Z RJ0 "COMPACT_STRINGS" "Z" (.int 1) (fun q => wSz w ≤ q) U U.heap ∧ (va_Z RJ3 "SIOOBE_FORMATTER" "Ljava/util/function/BiFunction;" .null (fun q => wSz w ≤ q) U U.heap ∨ va_Z RJ3 "SIOOBE_FORMATTER" "Ljava/util/function/BiFunction;" (.ref (wX w 9)) (fun q => wSz w ≤ q) U U.heap)) ∧
  (va_AO RX2 U ∧ va_AO RX4 U ∧ va_AO RX6 U) ∧
  (va_X (wX w 0) (wL w) (wS w) U U.heap ∧ wX w 0 < U.heap.size ∧ ¬ wSz w ≤ wX w 0) ∧ wSz w ≤ U.heap.size
theorem GW.move {w : Wd} {s U : State} {H : Heap} {locs : List Loc} (h : GW w s) (hS : va_S (fun q => wSz w ≤ q) s.heap H locs) (hU : U.heap = H) (hW : s.WarmedH U.vm) : GW w U := by
  subst hU
  have hk : ∀ a : Nat, a < s.heap.size → ¬ wSz w ≤ a → U.heap[a]? = s.heap[a]? := fun a h1 h2 => hS.2.1 a h1 h2
  have hA := hW.alike
  obtain ⟨g1, ⟨g2, g2'⟩, g3, ⟨g4, g4'⟩, g5, ⟨g6, g6'⟩, ⟨g7, g7', g7''⟩, ⟨g8, g8', g8''⟩, g9⟩ := h
  exact ⟨g1.moved hA, ⟨fun q hq => va_Nw.warmM hW (g2 q hq), fun q hq => va_Nw.warmF hW (g2' q hq)⟩, fun q hq => ⟨((g3 q hq).1.moved hA).kept hk, ((g3 q hq).2.moved hA).kept hk⟩, ⟨g4.warm hW, g4'.warm hW⟩, (g5.moved hA).kept hk, ⟨(g6.moved hA).kept hk, g6'.elim (fun z => Or.inl ((z.moved hA).kept hk)) (fun z => Or.inr ((z.moved hA).kept hk))⟩, ⟨g7.moved hA, g7'.moved hA, g7''.moved hA⟩, ⟨va_X.moved hA (g8.kept (hk _ g8' g8'')), Nat.lt_of_lt_of_le g8' hS.1, g8''⟩, Nat.le_trans g9 hS.1⟩
theorem GW.blind {w : Wd} {U : State} {g : JFrame} {mk : MethodId} {a : Array Value} (h : GW w U) : GW w (U.calling g mk a) := by
  obtain ⟨g1, ⟨g2, g2'⟩, g3, ⟨g4, g4'⟩, g5, ⟨g6, g6'⟩, ⟨g7, g7', g7''⟩, ⟨g8, g8', g8''⟩, g9⟩ := h
  have hA : U.vm.Alike (U.calling g mk a).vm := Vm.Alike.refl U.vm
  have hv : (U.calling g mk a).vm = U.vm := rfl
  exact ⟨g1.moved hA, ⟨fun q hq => va_Nw.same rfl rfl (g2 q hq), fun q hq => va_Nw.same rfl rfl (g2' q hq)⟩, fun q hq => ⟨(g3 q hq).1.moved hA, (g3 q hq).2.moved hA⟩, ⟨g4.same hv, g4'.same hv⟩, g5.moved hA, ⟨g6.moved hA, g6'.elim (fun z => Or.inl (z.moved hA)) (fun z => Or.inr (z.moved hA))⟩, ⟨g7.moved hA, g7'.moved hA, g7''.moved hA⟩, ⟨va_X.moved hA g8, g8', g8''⟩, g9⟩
end
section
/-! 03: THE ROWS OF THE ABSTRACT MACHINE -/
abbrev Cx : Type := Program × Launch × Env × Room × State × MethodId × Array Value × List Frame × Method × Code × (State → Prop) × Wd × Nat × Nat
abbrev kp (K : Cx) : Program := K.1
abbrev kl (K : Cx) : Launch := K.2.1
abbrev ke (K : Cx) : Env := K.2.2.1
abbrev kR (K : Cx) : Room := K.2.2.2.1
abbrev ks (K : Cx) : State := K.2.2.2.2.1
abbrev km (K : Cx) : MethodId := K.2.2.2.2.2.1
abbrev ka (K : Cx) : Array Value := K.2.2.2.2.2.2.1
abbrev kb (K : Cx) : List Frame := K.2.2.2.2.2.2.2.1
abbrev kmt (K : Cx) : Method := K.2.2.2.2.2.2.2.2.1
abbrev kc (K : Cx) : Code := K.2.2.2.2.2.2.2.2.2.1
abbrev kQ (K : Cx) : State → Prop := K.2.2.2.2.2.2.2.2.2.2.1
abbrev kw (K : Cx) : Wd := K.2.2.2.2.2.2.2.2.2.2.2.1
abbrev kn (K : Cx) : Nat := K.2.2.2.2.2.2.2.2.2.2.2.2.1
abbrev kL (K : Cx) : Nat := K.2.2.2.2.2.2.2.2.2.2.2.2.2
def LOK (w : Wd) (nL : Nat) (ls : Array Slot) (loc : List (Option Value)) : Prop := ls.size = nL ∧ lv_wf ls ∧ ∀ (i : Nat) (v : Value), loc[i]? = some (some v) → ls[i]? = some (.val (cv w v))
def setL (loc : List (Option Value)) (i : Nat) (v : Value) : List (Option Value) := (match i with
  | 0 => loc
  | i' + 1 => match loc[i']? with
    | some (some u) => if u.category = 2 then loc.set i' none else loc
    | _ => loc).set i (some v)
def setL2 (loc : List (Option Value)) (i : Nat) (v : Value) : List (Option Value) := (setL loc i v).set (i + 1) none
def asc (w : Wd) (loc : List (Option Value)) : List (Nat × Value) := (List.range loc.length).filterMap (fun i => match loc[i]? with
  | some (some v) => some (i, cv w v)
  | _ => none)
theorem asc_mem {w : Wd} {loc : List (Option Value)} {q : Nat × Value} : q ∈ asc w loc ↔ ∃ v, loc[q.1]? = some (some v) ∧ q.2 = cv w v := by
  constructor
  · intro h
    obtain ⟨i, hi, he⟩ := List.mem_filterMap.mp h
    cases hl : loc[i]? with
    | none => rw [hl] at he; cases he
    | some o =>
      cases o with
      | none => rw [hl] at he; cases he
      | some v => rw [hl] at he; cases he; exact ⟨v, hl, rfl⟩
  · rintro ⟨v, h1, h2⟩
    refine List.mem_filterMap.mpr ⟨q.1, List.mem_range.mpr (List.getElem?_eq_some_iff.mp h1).1, ?_⟩
    rw [h1]
    show some (q.1, cv w v) = some q
    rw [← h2]
theorem LOK.has {w : Wd} {nL : Nat} {ls : Array Slot} {loc : List (Option Value)} (h : LOK w nL ls loc) : lv_has ls nL (asc w loc) := by
  refine ⟨h.1, h.2.1, fun q hq => ?_⟩
  obtain ⟨v, h1, h2⟩ := asc_mem.mp hq
  rw [h2]
  exact h.2.2 _ _ h1
theorem LOK.sub {w : Wd} {nL : Nat} {ls : Array Slot} {loc loc' : List (Option Value)} (h : LOK w nL ls loc) (hs : ∀ (i : Nat) (v : Value), loc'[i]? = some (some v) → loc[i]? = some (some v)) : LOK w nL ls loc' := ⟨h.1, h.2.1, fun i v hv => h.2.2 i v (hs i v hv)⟩
theorem setL_at {loc : List (Option Value)} {i j : Nat} {v u : Value} (h : (setL loc i v)[j]? = some (some u)) : (j = i ∧ u = v) ∨ (j ≠ i ∧ loc[j]? = some (some u) ∧ ¬ (j + 1 = i ∧ u.category = 2)) := by
  unfold setL at h
  by_cases hj : i = j
  · subst hj
    rw [List.getElem?_set_self'] at h
    left
    refine ⟨rfl, ?_⟩
    revert h
    generalize ((match i with
      | 0 => loc
      | i' + 1 => match loc[i']? with
        | some (some u) => if u.category = 2 then loc.set i' none else loc
        | _ => loc)[i]?) = z
    cases z with
    | none => intro h; cases h
    | some z => intro h; cases h; rfl
  · rw [List.getElem?_set_ne hj] at h
    right
    refine ⟨fun e => hj e.symm, ?_⟩
    cases i with
    | zero => exact ⟨h, fun z => by omega⟩
    | succ i' =>
      dsimp only at h
      cases hl : loc[i']? with
      | none => rw [hl] at h; refine ⟨h, fun z => ?_⟩; rw [show j = i' by omega, hl] at h; cases h
      | some o =>
        rw [hl] at h
        cases o with
        | none => refine ⟨h, fun z => ?_⟩; rw [show j = i' by omega] at h; dsimp only at h; rw [hl] at h; cases h
        | some u' =>
          dsimp only at h
          by_cases hc : u'.category = 2
          · rw [if_pos hc] at h
            by_cases hji : i' = j
            · subst hji
              rw [List.getElem?_set_self'] at h
              rw [hl] at h
              cases h
            · rw [List.getElem?_set_ne hji] at h
              exact ⟨h, fun z => by omega⟩
          · rw [if_neg hc] at h
            refine ⟨h, fun z => hc ?_⟩
            have : j = i' := by omega
            subst this
            rw [hl] at h
            cases h
            exact z.2
theorem LOK.set1 {w : Wd} {nL : Nat} {ls' : Array Slot} {loc : List (Option Value)} {i : Nat} {v : Value} (h' : lv_has ls' nL ((i, cv w v) :: (asc w loc).filter (fun q => !(q.1 == i) && !(q.1 + 1 == i && q.2.category == 2)))) : LOK w nL ls' (setL loc i v) := by
  refine ⟨h'.1, h'.2.1, fun j u hu => ?_⟩
  rcases setL_at hu with ⟨rfl, rfl⟩ | ⟨h1, h2, h3⟩
  · exact h'.2.2 (j, cv w u) List.mem_cons_self
  · refine h'.2.2 (j, cv w u) (List.mem_cons_of_mem _ (List.mem_filter.mpr ⟨asc_mem.mpr ⟨u, h2, rfl⟩, ?_⟩))
    simp only [cv_cat, Bool.and_eq_true, Bool.not_eq_true', beq_eq_false_iff_ne, ne_eq, Bool.and_eq_false_iff]
    refine ⟨h1, ?_⟩
    by_cases hj : j + 1 = i
    · exact Or.inr (fun z => h3 ⟨hj, z⟩)
    · exact Or.inl hj
theorem LOK.set2 {w : Wd} {nL : Nat} {ls' : Array Slot} {loc : List (Option Value)} {i : Nat} {v : Value} (h' : lv_has ls' nL ((i, cv w v) :: (asc w loc).filter (fun q => !(q.1 == i) && (!(q.1 == i + 1) && !(q.1 + 1 == i && q.2.category == 2))))) : LOK w nL ls' (setL2 loc i v) := by
  refine ⟨h'.1, h'.2.1, fun j u hu => ?_⟩
  unfold setL2 at hu
  by_cases hj1 : i + 1 = j
  · subst hj1
    rw [List.getElem?_set_self'] at hu
    cases hz : (setL loc i v)[i + 1]? with
    | none => rw [hz] at hu; cases hu
    | some z => rw [hz] at hu; cases hu
  · rw [List.getElem?_set_ne hj1] at hu
    rcases setL_at hu with ⟨rfl, rfl⟩ | ⟨h1, h2, h3⟩
    · exact h'.2.2 (j, cv w u) List.mem_cons_self
    · refine h'.2.2 (j, cv w u) (List.mem_cons_of_mem _ (List.mem_filter.mpr ⟨asc_mem.mpr ⟨u, h2, rfl⟩, ?_⟩))
      simp only [cv_cat, Bool.and_eq_true, Bool.not_eq_true', beq_eq_false_iff_ne, ne_eq, Bool.and_eq_false_iff]
      refine ⟨h1, fun z => hj1 z.symm, ?_⟩
      by_cases hj : j + 1 = i
      · exact Or.inr (fun z => h3 ⟨hj, z⟩)
      · exact Or.inl hj
/-- what stands fixed in a method's walk -/
def Ctx (K : Cx) (own : String) (cc : ByteArray) : Prop :=
  (kp K).tables.exec = Jvm.exec ∧ (kc K).code = cc ∧ (kc K).maxLocals = kL K ∧ (ks K).vm.findClass own = some (km K).cls ∧ (∀ w ∈ lw_gd, w.before (ka K) (ks K) = true) ∧ GW (kw K) (ks K) ∧ (ks K).heap.size = wSz (kw K) + kn K ∧ (kmt K).locks = false ∧ 1 ≤ (kR K).frames ∧ 40 * (kR K).frames ≤ (kR K).locals
/-- the goal from a point of the walk on: n cells, memory M, references P, code place pc, locals loc, operand stack st -/
def AW (K : Cx) (n : Nat) (M : Mem) (P : Pm) (pc : Nat) (loc : List (Option Value)) (st : List Value) : Prop :=
  ∀ (ls : Array Slot) (H : Heap) (locs : List Loc), LOK (kw K) (kL K) ls loc → va_P (wG (kw K)) vwCl (wsO (kw K) n M P) H → va_S (fun q => wSz (kw K) ≤ q) (ks K).heap H locs →
    W (kp K) (kl K) (ke K) (kR K) (ks K) (km K) (ka K) (kb K) (kmt K) (kc K) H locs (n - kn K) (sln n - sln (kn K)) (kQ K) (F0 (km K) pc ls (st.map (cv (kw K))))
section R
variable {K : Cx} {own : String} {cc : ByteArray} {n : Nat} {M : Mem} {P : Pm} {pc : Nat} {loc : List (Option Value)} {st : List Value}
theorem aw_loc (loc' : List (Option Value)) (hs : ∀ (i : Nat) (v : Value), loc'[i]? = some (some v) → loc[i]? = some (some v)) (k : AW K n M P pc loc' st) : AW K n M P pc loc st := fun ls H locs hl hP hS => k ls H locs (hl.sub hs) hP hS
theorem aw_iconst (C : Ctx K own cc) {i : Int} {v : Int32} (d : decode cc pc = .ok (.iconst i, 1)) (hv : Int32.ofInt i = v) (k : AW K n M P (pc + 1) loc (.int v :: st)) : AW K n M P pc loc st :=
  fun ls H locs hl hP hS => lv_iconst C.1 C.2.1 d hv (k ls H locs hl hP hS)
theorem aw_bipush (C : Ctx K own cc) {i : Int} {v : Int32} (d : decode cc pc = .ok (.bipush i, 2)) (hv : (Int8.ofInt i).toInt32 = v) (k : AW K n M P (pc + 2) loc (.int v :: st)) : AW K n M P pc loc st :=
  fun ls H locs hl hP hS => lv_bipush C.1 C.2.1 d hv (k ls H locs hl hP hS)
theorem aw_sipush (C : Ctx K own cc) {i : Int} {v : Int32} (d : decode cc pc = .ok (.sipush i, 3)) (hv : (Int16.ofInt i).toInt32 = v) (k : AW K n M P (pc + 3) loc (.int v :: st)) : AW K n M P pc loc st :=
  fun ls H locs hl hP hS => lv_sipush C.1 C.2.1 d hv (k ls H locs hl hP hS)
theorem aw_lconst (C : Ctx K own cc) {i : Fin 2} {v : Int64} (d : decode cc pc = .ok (.lconst i, 1)) (hv : Int64.ofNat (i : Nat) = v) (k : AW K n M P (pc + 1) loc (.long v :: st)) : AW K n M P pc loc st :=
  fun ls H locs hl hP hS => lv_lconst C.1 C.2.1 d hv (k ls H locs hl hP hS)
theorem aw_ldc (C : Ctx K own cc) {ix : Nat} {v : Int32} (hg : Cond.constant own ix v ∈ lw_gd) (d : decode cc pc = .ok (.ldc ix, 2)) (k : AW K n M P (pc + 2) loc (.int v :: st)) : AW K n M P pc loc st :=
  fun ls H locs hl hP hS => lv_ldc C.1 C.2.1 C.2.2.2.1 (C.2.2.2.2.1 _ hg) d (k ls H locs hl hP hS)
theorem aw_ldcw (C : Ctx K own cc) {ix : Nat} {v : Int32} (hg : Cond.constant own ix v ∈ lw_gd) (d : decode cc pc = .ok (.ldc_w ix, 3)) (k : AW K n M P (pc + 3) loc (.int v :: st)) : AW K n M P pc loc st :=
  fun ls H locs hl hP hS => lv_ldcw C.1 C.2.1 C.2.2.2.1 (C.2.2.2.2.1 _ hg) d (k ls H locs hl hP hS)
theorem aw_ldc2 (C : Ctx K own cc) {ix : Nat} {v : Int64} (hg : Cond.constantLong own ix v ∈ lw_gd) (d : decode cc pc = .ok (.ldc2_w ix, 3)) (k : AW K n M P (pc + 3) loc (.long v :: st)) : AW K n M P pc loc st :=
  fun ls H locs hl hP hS => lv_ldc2 C.1 C.2.1 C.2.2.2.1 (C.2.2.2.2.1 _ hg) d (k ls H locs hl hP hS)
theorem aw_iload_n (C : Ctx K own cc) {i : Fin 4} {x : Int32} (d : decode cc pc = .ok (.iload_n i, 1)) (h : loc[(i : Nat)]? = some (some (.int x))) (k : AW K n M P (pc + 1) loc (.int x :: st)) : AW K n M P pc loc st :=
  fun ls H locs hl hP hS => lv_iload_n C.1 C.2.1 d rfl (hl.2.2 _ _ h) (k ls H locs hl hP hS)
theorem aw_iload (C : Ctx K own cc) {i : Nat} {x : Int32} (d : decode cc pc = .ok (.iload i, 2)) (h : loc[i]? = some (some (.int x))) (k : AW K n M P (pc + 2) loc (.int x :: st)) : AW K n M P pc loc st :=
  fun ls H locs hl hP hS => lv_iload C.1 C.2.1 d (hl.2.2 _ _ h) (k ls H locs hl hP hS)
theorem aw_lload_n (C : Ctx K own cc) {i : Fin 4} {x : Int64} (d : decode cc pc = .ok (.lload_n i, 1)) (h : loc[(i : Nat)]? = some (some (.long x))) (k : AW K n M P (pc + 1) loc (.long x :: st)) : AW K n M P pc loc st :=
  fun ls H locs hl hP hS => lv_lload_n C.1 C.2.1 d rfl (hl.2.2 _ _ h) (k ls H locs hl hP hS)
theorem aw_lload (C : Ctx K own cc) {i : Nat} {x : Int64} (d : decode cc pc = .ok (.lload i, 2)) (h : loc[i]? = some (some (.long x))) (k : AW K n M P (pc + 2) loc (.long x :: st)) : AW K n M P pc loc st :=
  fun ls H locs hl hP hS => lv_lload C.1 C.2.1 d (hl.2.2 _ _ h) (k ls H locs hl hP hS)
theorem aw_aload_n (C : Ctx K own cc) {i : Fin 4} {x : Nat} (d : decode cc pc = .ok (.aload_n i, 1)) (h : loc[(i : Nat)]? = some (some (.ref x))) (k : AW K n M P (pc + 1) loc (.ref x :: st)) : AW K n M P pc loc st :=
  fun ls H locs hl hP hS => lv_aload_n C.1 C.2.1 d rfl (hl.2.2 _ _ h) (k ls H locs hl hP hS)
theorem aw_aload (C : Ctx K own cc) {i : Nat} {x : Nat} (d : decode cc pc = .ok (.aload i, 2)) (h : loc[i]? = some (some (.ref x))) (k : AW K n M P (pc + 2) loc (.ref x :: st)) : AW K n M P pc loc st :=
  fun ls H locs hl hP hS => lv_aload C.1 C.2.1 d (hl.2.2 _ _ h) (k ls H locs hl hP hS)
theorem aw_istore_n (C : Ctx K own cc) (loc' : List (Option Value)) {i : Fin 4} {x : Int32} (d : decode cc pc = .ok (.istore_n i, 1)) {L : Nat} (hL : kL K = L) (hi : (i : Nat) < L) (he : setL loc (i : Nat) (.int x) = loc') (k : AW K n M P (pc + 1) loc' st) : AW K n M P pc loc (.int x :: st) :=
  fun _ H locs hl hP hS => lv_istore_n C.1 C.2.1 d rfl hl.has (hL ▸ hi) rfl (fun ls' h' => k ls' H locs (he ▸ LOK.set1 (v := .int x) h') hP hS)
theorem aw_istore (C : Ctx K own cc) (loc' : List (Option Value)) {i : Nat} {x : Int32} (d : decode cc pc = .ok (.istore i, 2)) {L : Nat} (hL : kL K = L) (hi : i < L) (he : setL loc i (.int x) = loc') (k : AW K n M P (pc + 2) loc' st) : AW K n M P pc loc (.int x :: st) :=
  fun _ H locs hl hP hS => lv_istore C.1 C.2.1 d hl.has (hL ▸ hi) rfl (fun ls' h' => k ls' H locs (he ▸ LOK.set1 (v := .int x) h') hP hS)
theorem aw_astore_n (C : Ctx K own cc) (loc' : List (Option Value)) {i : Fin 4} {x : Nat} (d : decode cc pc = .ok (.astore_n i, 1)) {L : Nat} (hL : kL K = L) (hi : (i : Nat) < L) (he : setL loc (i : Nat) (.ref x) = loc') (k : AW K n M P (pc + 1) loc' st) : AW K n M P pc loc (.ref x :: st) :=
  fun _ H locs hl hP hS => lv_astore_n C.1 C.2.1 d rfl hl.has (hL ▸ hi) rfl (fun ls' h' => k ls' H locs (he ▸ LOK.set1 (v := .ref x) h') hP hS)
theorem aw_astore (C : Ctx K own cc) (loc' : List (Option Value)) {i : Nat} {x : Nat} (d : decode cc pc = .ok (.astore i, 2)) {L : Nat} (hL : kL K = L) (hi : i < L) (he : setL loc i (.ref x) = loc') (k : AW K n M P (pc + 2) loc' st) : AW K n M P pc loc (.ref x :: st) :=
  fun _ H locs hl hP hS => lv_astore C.1 C.2.1 d hl.has (hL ▸ hi) rfl (fun ls' h' => k ls' H locs (he ▸ LOK.set1 (v := .ref x) h') hP hS)
theorem aw_lstore_n (C : Ctx K own cc) (loc' : List (Option Value)) {i : Fin 4} {x : Int64} (d : decode cc pc = .ok (.lstore_n i, 1)) {L : Nat} (hL : kL K = L) (hi : (i : Nat) + 1 < L) (he : setL2 loc (i : Nat) (.long x) = loc') (k : AW K n M P (pc + 1) loc' st) : AW K n M P pc loc (.long x :: st) :=
  fun _ H locs hl hP hS => lv_lstore_n C.1 C.2.1 d rfl hl.has (hL ▸ hi) rfl (fun ls' h' => k ls' H locs (he ▸ LOK.set2 (v := .long x) h') hP hS)
theorem aw_lstore (C : Ctx K own cc) (loc' : List (Option Value)) {i : Nat} {x : Int64} (d : decode cc pc = .ok (.lstore i, 2)) {L : Nat} (hL : kL K = L) (hi : i + 1 < L) (he : setL2 loc i (.long x) = loc') (k : AW K n M P (pc + 2) loc' st) : AW K n M P pc loc (.long x :: st) :=
  fun _ H locs hl hP hS => lv_lstore C.1 C.2.1 d hl.has (hL ▸ hi) rfl (fun ls' h' => k ls' H locs (he ▸ LOK.set2 (v := .long x) h') hP hS)
theorem aw_iinc (C : Ctx K own cc) (loc' : List (Option Value)) {i : Nat} {c : Int} {x v : Int32} (d : decode cc pc = .ok (.iinc i c, 3)) (h : loc[i]? = some (some (.int x))) {L : Nat} (hL : kL K = L) (hi : i < L) (hv : Int32.ofInt c = v) (he : setL loc i (.int (x + v)) = loc') (k : AW K n M P (pc + 3) loc' st) : AW K n M P pc loc st := by
  intro ls H locs hl hP hS
  obtain ⟨q, hq⟩ := List.getElem?_of_mem (asc_mem (w := kw K) (q := (i, cv (kw K) (.int x))) |>.mpr ⟨_, h, rfl⟩)
  exact lv_iinc (k := q) C.1 C.2.1 d hl.has hq (by rw [hv]) (hL ▸ hi) rfl (fun ls' h' => k ls' H locs (he ▸ LOK.set1 (v := .int (x + v)) h') hP hS)
theorem aw_iadd (C : Ctx K own cc) {x y : Int32} (d : decode cc pc = .ok (.iadd, 1)) (k : AW K n M P (pc + 1) loc (.int (x + y) :: st)) : AW K n M P pc loc (.int y :: .int x :: st) :=
  fun ls H locs hl hP hS => lv_iadd C.1 C.2.1 d (k ls H locs hl hP hS)
theorem aw_isub (C : Ctx K own cc) {x y : Int32} (d : decode cc pc = .ok (.isub, 1)) (k : AW K n M P (pc + 1) loc (.int (x - y) :: st)) : AW K n M P pc loc (.int y :: .int x :: st) :=
  fun ls H locs hl hP hS => lv_isub C.1 C.2.1 d (k ls H locs hl hP hS)
theorem aw_imul (C : Ctx K own cc) {x y : Int32} (d : decode cc pc = .ok (.imul, 1)) (k : AW K n M P (pc + 1) loc (.int (x * y) :: st)) : AW K n M P pc loc (.int y :: .int x :: st) :=
  fun ls H locs hl hP hS => lv_imul C.1 C.2.1 d (k ls H locs hl hP hS)
theorem aw_iand (C : Ctx K own cc) {x y : Int32} (d : decode cc pc = .ok (.iand, 1)) (k : AW K n M P (pc + 1) loc (.int (x &&& y) :: st)) : AW K n M P pc loc (.int y :: .int x :: st) :=
  fun ls H locs hl hP hS => lv_iand C.1 C.2.1 d (k ls H locs hl hP hS)
theorem aw_ior (C : Ctx K own cc) {x y : Int32} (d : decode cc pc = .ok (.ior, 1)) (k : AW K n M P (pc + 1) loc (.int (x ||| y) :: st)) : AW K n M P pc loc (.int y :: .int x :: st) :=
  fun ls H locs hl hP hS => lv_ior C.1 C.2.1 d (k ls H locs hl hP hS)
theorem aw_ineg (C : Ctx K own cc) {x : Int32} (d : decode cc pc = .ok (.ineg, 1)) (k : AW K n M P (pc + 1) loc (.int (-x) :: st)) : AW K n M P pc loc (.int x :: st) :=
  fun ls H locs hl hP hS => lv_ineg C.1 C.2.1 d (k ls H locs hl hP hS)
theorem aw_idiv (C : Ctx K own cc) {x y : Int32} (hne : ¬ y = 0) (d : decode cc pc = .ok (.idiv, 1)) (k : AW K n M P (pc + 1) loc (.int (x / y) :: st)) : AW K n M P pc loc (.int y :: .int x :: st) :=
  fun ls H locs hl hP hS => lv_idiv C.1 C.2.1 d hne (k ls H locs hl hP hS)
theorem aw_irem (C : Ctx K own cc) {x y : Int32} (hne : ¬ y = 0) (d : decode cc pc = .ok (.irem, 1)) (k : AW K n M P (pc + 1) loc (.int (x - x / y * y) :: st)) : AW K n M P pc loc (.int y :: .int x :: st) :=
  fun ls H locs hl hP hS => lv_irem C.1 C.2.1 d hne (k ls H locs hl hP hS)
theorem aw_ishl (C : Ctx K own cc) {x y : Int32} (d : decode cc pc = .ok (.ishl, 1)) (k : AW K n M P (pc + 1) loc (.int (x <<< (y &&& 31)) :: st)) : AW K n M P pc loc (.int y :: .int x :: st) :=
  fun ls H locs hl hP hS => lv_ishl C.1 C.2.1 d (k ls H locs hl hP hS)
theorem aw_ishr (C : Ctx K own cc) {x y : Int32} (d : decode cc pc = .ok (.ishr, 1)) (k : AW K n M P (pc + 1) loc (.int (x >>> (y &&& 31)) :: st)) : AW K n M P pc loc (.int y :: .int x :: st) :=
  fun ls H locs hl hP hS => lv_ishr C.1 C.2.1 d (k ls H locs hl hP hS)
theorem aw_iushr (C : Ctx K own cc) {x y : Int32} (d : decode cc pc = .ok (.iushr, 1)) (k : AW K n M P (pc + 1) loc (.int ((x.toUInt32 >>> (y.toUInt32 &&& Int32.toUInt32 31)).toInt32) :: st)) : AW K n M P pc loc (.int y :: .int x :: st) :=
  fun ls H locs hl hP hS => lv_iushr C.1 C.2.1 d rfl (k ls H locs hl hP hS)
theorem aw_i2l (C : Ctx K own cc) {x : Int32} (d : decode cc pc = .ok (.i2l, 1)) (k : AW K n M P (pc + 1) loc (.long x.toInt64 :: st)) : AW K n M P pc loc (.int x :: st) :=
  fun ls H locs hl hP hS => lv_i2l C.1 C.2.1 d rfl (k ls H locs hl hP hS)
theorem aw_l2i (C : Ctx K own cc) {x : Int64} (d : decode cc pc = .ok (.l2i, 1)) (k : AW K n M P (pc + 1) loc (.int x.toInt32 :: st)) : AW K n M P pc loc (.long x :: st) :=
  fun ls H locs hl hP hS => lv_l2i C.1 C.2.1 d rfl (k ls H locs hl hP hS)
theorem aw_i2b (C : Ctx K own cc) {x : Int32} (d : decode cc pc = .ok (.i2b, 1)) (k : AW K n M P (pc + 1) loc (.int x.toInt8.toInt32 :: st)) : AW K n M P pc loc (.int x :: st) :=
  fun ls H locs hl hP hS => lv_i2b C.1 C.2.1 d rfl (k ls H locs hl hP hS)
theorem aw_i2s (C : Ctx K own cc) {x : Int32} (d : decode cc pc = .ok (.i2s, 1)) (k : AW K n M P (pc + 1) loc (.int x.toInt16.toInt32 :: st)) : AW K n M P pc loc (.int x :: st) :=
  fun ls H locs hl hP hS => lv_i2s C.1 C.2.1 d rfl (k ls H locs hl hP hS)
theorem aw_i2c (C : Ctx K own cc) {x : Int32} (d : decode cc pc = .ok (.i2c, 1)) (k : AW K n M P (pc + 1) loc (.int (x.toUInt32 % 65536).toInt32 :: st)) : AW K n M P pc loc (.int x :: st) :=
  fun ls H locs hl hP hS => lv_i2c C.1 C.2.1 d rfl (k ls H locs hl hP hS)
theorem aw_ladd (C : Ctx K own cc) {x y : Int64} (d : decode cc pc = .ok (.ladd, 1)) (k : AW K n M P (pc + 1) loc (.long (x + y) :: st)) : AW K n M P pc loc (.long y :: .long x :: st) :=
  fun ls H locs hl hP hS => lv_ladd C.1 C.2.1 d (k ls H locs hl hP hS)
theorem aw_lsub (C : Ctx K own cc) {x y : Int64} (d : decode cc pc = .ok (.lsub, 1)) (k : AW K n M P (pc + 1) loc (.long (x - y) :: st)) : AW K n M P pc loc (.long y :: .long x :: st) :=
  fun ls H locs hl hP hS => lv_lsub C.1 C.2.1 d (k ls H locs hl hP hS)
theorem aw_lmul (C : Ctx K own cc) {x y : Int64} (d : decode cc pc = .ok (.lmul, 1)) (k : AW K n M P (pc + 1) loc (.long (x * y) :: st)) : AW K n M P pc loc (.long y :: .long x :: st) :=
  fun ls H locs hl hP hS => lv_lmul C.1 C.2.1 d (k ls H locs hl hP hS)
theorem aw_ldiv (C : Ctx K own cc) {x y : Int64} (hne : ¬ y = 0) (d : decode cc pc = .ok (.ldiv, 1)) (k : AW K n M P (pc + 1) loc (.long (x / y) :: st)) : AW K n M P pc loc (.long y :: .long x :: st) :=
  fun ls H locs hl hP hS => lv_ldiv C.1 C.2.1 d hne (k ls H locs hl hP hS)
theorem aw_lrem (C : Ctx K own cc) {x y : Int64} (hne : ¬ y = 0) (d : decode cc pc = .ok (.lrem, 1)) (k : AW K n M P (pc + 1) loc (.long (x - x / y * y) :: st)) : AW K n M P pc loc (.long y :: .long x :: st) :=
  fun ls H locs hl hP hS => lv_lrem C.1 C.2.1 d hne (k ls H locs hl hP hS)
theorem aw_dup (C : Ctx K own cc) {v : Value} (d : decode cc pc = .ok (.dup, 1)) (hv : v.category = 1) (k : AW K n M P (pc + 1) loc (v :: v :: st)) : AW K n M P pc loc (v :: st) :=
  fun ls H locs hl hP hS => lv_dup C.1 C.2.1 d (by rw [cv_cat]; exact hv) (k ls H locs hl hP hS)
theorem aw_dup2 (C : Ctx K own cc) {v u : Value} (d : decode cc pc = .ok (.dup2, 1)) (hv : v.category = 1) (hu : u.category = 1) (k : AW K n M P (pc + 1) loc (v :: u :: v :: u :: st)) : AW K n M P pc loc (v :: u :: st) :=
  fun ls H locs hl hP hS => lv_dup2_11 C.1 C.2.1 d (by rw [cv_cat]; exact hv) (by rw [cv_cat]; exact hu) (k ls H locs hl hP hS)
theorem aw_pop (C : Ctx K own cc) {v : Value} (d : decode cc pc = .ok (.pop, 1)) (hv : v.category = 1) (k : AW K n M P (pc + 1) loc st) : AW K n M P pc loc (v :: st) :=
  fun ls H locs hl hP hS => lv_pop C.1 C.2.1 d (by rw [cv_cat]; exact hv) (k ls H locs hl hP hS)
theorem aw_goto (C : Ctx K own cc) {off : Int} (tgt : Nat) (d : decode cc pc = .ok (.goto off, 3)) (ht : (pc : Int) + off = (tgt : Int)) (k : AW K n M P tgt loc st) : AW K n M P pc loc st :=
  fun ls H locs hl hP hS => lv_goto C.1 C.2.1 d ht (k ls H locs hl hP hS)
end R
end
section
/-! 04: branches, cells, calls, returns, contracts -/
section R4
variable {K : Cx} {own : String} {cc : ByteArray} {n : Nat} {M : Mem} {P : Pm} {pc : Nat} {loc : List (Option Value)} {st : List Value}
variable {β : Type} {A B : Option β} {r : β}
theorem aw_if_eq (C : Ctx K own cc) {x : Int32} {off : Int} (tgt : Nat) (d : decode cc pc = .ok (.ifCond .eq off, 3)) (ht : (pc : Int) + off = (tgt : Int)) (h : (if x = 0 then A else B) = some r) (kt : A = some r → AW K n M P tgt loc st) (kf : B = some r → AW K n M P (pc + 3) loc st) : AW K n M P pc loc (.int x :: st) :=
  fun ls H locs hl hP hS => lv_if_eq C.1 C.2.1 d ht (fun c => kt ((if_pos c).symm.trans h) ls H locs hl hP hS) (fun c => kf ((if_neg c).symm.trans h) ls H locs hl hP hS)
theorem aw_icmp_eq (C : Ctx K own cc) {x y : Int32} {off : Int} (tgt : Nat) (d : decode cc pc = .ok (.if_icmp .eq off, 3)) (ht : (pc : Int) + off = (tgt : Int)) (h : (if x = y then A else B) = some r) (kt : A = some r → AW K n M P tgt loc st) (kf : B = some r → AW K n M P (pc + 3) loc st) : AW K n M P pc loc (.int y :: .int x :: st) :=
  fun ls H locs hl hP hS => lv_icmp_eq C.1 C.2.1 d ht (fun c => kt ((if_pos c).symm.trans h) ls H locs hl hP hS) (fun c => kf ((if_neg c).symm.trans h) ls H locs hl hP hS)
theorem aw_if_ne (C : Ctx K own cc) {x : Int32} {off : Int} (tgt : Nat) (d : decode cc pc = .ok (.ifCond .ne off, 3)) (ht : (pc : Int) + off = (tgt : Int)) (h : (if x = 0 then A else B) = some r) (kf : A = some r → AW K n M P (pc + 3) loc st) (kt : B = some r → AW K n M P tgt loc st) : AW K n M P pc loc (.int x :: st) :=
  fun ls H locs hl hP hS => lv_if_ne C.1 C.2.1 d ht (fun c => kt ((if_neg c).symm.trans h) ls H locs hl hP hS) (fun c => kf ((if_pos c).symm.trans h) ls H locs hl hP hS)
theorem aw_icmp_ne (C : Ctx K own cc) {x y : Int32} {off : Int} (tgt : Nat) (d : decode cc pc = .ok (.if_icmp .ne off, 3)) (ht : (pc : Int) + off = (tgt : Int)) (h : (if x = y then A else B) = some r) (kf : A = some r → AW K n M P (pc + 3) loc st) (kt : B = some r → AW K n M P tgt loc st) : AW K n M P pc loc (.int y :: .int x :: st) :=
  fun ls H locs hl hP hS => lv_icmp_ne C.1 C.2.1 d ht (fun c => kt ((if_neg c).symm.trans h) ls H locs hl hP hS) (fun c => kf ((if_pos c).symm.trans h) ls H locs hl hP hS)
theorem aw_if_lt (C : Ctx K own cc) {x : Int32} {off : Int} (tgt : Nat) (d : decode cc pc = .ok (.ifCond .lt off, 3)) (ht : (pc : Int) + off = (tgt : Int)) (h : (if x < 0 then A else B) = some r) (kt : A = some r → AW K n M P tgt loc st) (kf : B = some r → AW K n M P (pc + 3) loc st) : AW K n M P pc loc (.int x :: st) :=
  fun ls H locs hl hP hS => lv_if_lt C.1 C.2.1 d ht (fun c => kt ((if_pos c).symm.trans h) ls H locs hl hP hS) (fun c => kf ((if_neg c).symm.trans h) ls H locs hl hP hS)
theorem aw_icmp_lt (C : Ctx K own cc) {x y : Int32} {off : Int} (tgt : Nat) (d : decode cc pc = .ok (.if_icmp .lt off, 3)) (ht : (pc : Int) + off = (tgt : Int)) (h : (if x < y then A else B) = some r) (kt : A = some r → AW K n M P tgt loc st) (kf : B = some r → AW K n M P (pc + 3) loc st) : AW K n M P pc loc (.int y :: .int x :: st) :=
  fun ls H locs hl hP hS => lv_icmp_lt C.1 C.2.1 d ht (fun c => kt ((if_pos c).symm.trans h) ls H locs hl hP hS) (fun c => kf ((if_neg c).symm.trans h) ls H locs hl hP hS)
theorem aw_if_ge (C : Ctx K own cc) {x : Int32} {off : Int} (tgt : Nat) (d : decode cc pc = .ok (.ifCond .ge off, 3)) (ht : (pc : Int) + off = (tgt : Int)) (h : (if 0 ≤ x then A else B) = some r) (kt : A = some r → AW K n M P tgt loc st) (kf : B = some r → AW K n M P (pc + 3) loc st) : AW K n M P pc loc (.int x :: st) :=
  fun ls H locs hl hP hS => lv_if_ge C.1 C.2.1 d ht (fun c => kt ((if_pos c).symm.trans h) ls H locs hl hP hS) (fun c => kf ((if_neg c).symm.trans h) ls H locs hl hP hS)
theorem aw_icmp_ge (C : Ctx K own cc) {x y : Int32} {off : Int} (tgt : Nat) (d : decode cc pc = .ok (.if_icmp .ge off, 3)) (ht : (pc : Int) + off = (tgt : Int)) (h : (if y ≤ x then A else B) = some r) (kt : A = some r → AW K n M P tgt loc st) (kf : B = some r → AW K n M P (pc + 3) loc st) : AW K n M P pc loc (.int y :: .int x :: st) :=
  fun ls H locs hl hP hS => lv_icmp_ge C.1 C.2.1 d ht (fun c => kt ((if_pos c).symm.trans h) ls H locs hl hP hS) (fun c => kf ((if_neg c).symm.trans h) ls H locs hl hP hS)
theorem aw_if_gt (C : Ctx K own cc) {x : Int32} {off : Int} (tgt : Nat) (d : decode cc pc = .ok (.ifCond .gt off, 3)) (ht : (pc : Int) + off = (tgt : Int)) (h : (if 0 < x then A else B) = some r) (kt : A = some r → AW K n M P tgt loc st) (kf : B = some r → AW K n M P (pc + 3) loc st) : AW K n M P pc loc (.int x :: st) :=
  fun ls H locs hl hP hS => lv_if_gt C.1 C.2.1 d ht (fun c => kt ((if_pos c).symm.trans h) ls H locs hl hP hS) (fun c => kf ((if_neg c).symm.trans h) ls H locs hl hP hS)
theorem aw_icmp_gt (C : Ctx K own cc) {x y : Int32} {off : Int} (tgt : Nat) (d : decode cc pc = .ok (.if_icmp .gt off, 3)) (ht : (pc : Int) + off = (tgt : Int)) (h : (if y < x then A else B) = some r) (kt : A = some r → AW K n M P tgt loc st) (kf : B = some r → AW K n M P (pc + 3) loc st) : AW K n M P pc loc (.int y :: .int x :: st) :=
  fun ls H locs hl hP hS => lv_icmp_gt C.1 C.2.1 d ht (fun c => kt ((if_pos c).symm.trans h) ls H locs hl hP hS) (fun c => kf ((if_neg c).symm.trans h) ls H locs hl hP hS)
theorem aw_if_le (C : Ctx K own cc) {x : Int32} {off : Int} (tgt : Nat) (d : decode cc pc = .ok (.ifCond .le off, 3)) (ht : (pc : Int) + off = (tgt : Int)) (h : (if x ≤ 0 then A else B) = some r) (kt : A = some r → AW K n M P tgt loc st) (kf : B = some r → AW K n M P (pc + 3) loc st) : AW K n M P pc loc (.int x :: st) :=
  fun ls H locs hl hP hS => lv_if_le C.1 C.2.1 d ht (fun c => kt ((if_pos c).symm.trans h) ls H locs hl hP hS) (fun c => kf ((if_neg c).symm.trans h) ls H locs hl hP hS)
theorem aw_icmp_le (C : Ctx K own cc) {x y : Int32} {off : Int} (tgt : Nat) (d : decode cc pc = .ok (.if_icmp .le off, 3)) (ht : (pc : Int) + off = (tgt : Int)) (h : (if x ≤ y then A else B) = some r) (kt : A = some r → AW K n M P tgt loc st) (kf : B = some r → AW K n M P (pc + 3) loc st) : AW K n M P pc loc (.int y :: .int x :: st) :=
  fun ls H locs hl hP hS => lv_icmp_le C.1 C.2.1 d ht (fun c => kt ((if_pos c).symm.trans h) ls H locs hl hP hS) (fun c => kf ((if_neg c).symm.trans h) ls H locs hl hP hS)

theorem aw_lcmp (C : Ctx K own cc) {x y : Int64} (d : decode cc pc = .ok (.lcmp, 1)) (k : AW K n M P (pc + 1) loc (.int (lg_cmp x y) :: st)) : AW K n M P pc loc (.long y :: .long x :: st) :=
  fun ls H locs hl hP hS => W.lcmp C.1 C.2.1 d (k ls H locs hl hP hS)
theorem aw_tsIn (C : Ctx K own cc) {dflt lo hi : Int} {offs : Array Int} {len : Nat} {x : Int32} (off : Int) (tgt : Nat) (d : decode cc pc = .ok (.tableswitch dflt lo hi offs, len)) (h1 : ¬ x.toInt < lo) (h2 : ¬ hi < x.toInt) (ho : offs[(x.toInt - lo).toNat]? = some off) (ht : (pc : Int) + off = (tgt : Int)) (k : AW K n M P tgt loc st) : AW K n M P pc loc (.int x :: st) :=
  fun ls H locs hl hP hS => lv_tableIn C.1 C.2.1 d h1 h2 ho ht (k ls H locs hl hP hS)
theorem aw_tsOut (C : Ctx K own cc) {dflt lo hi : Int} {offs : Array Int} {len : Nat} {x : Int32} (tgt : Nat) (d : decode cc pc = .ok (.tableswitch dflt lo hi offs, len)) (h : x.toInt < lo ∨ hi < x.toInt) (ht : (pc : Int) + dflt = (tgt : Int)) (k : AW K n M P tgt loc st) : AW K n M P pc loc (.int x :: st) :=
  fun ls H locs hl hP hS => lv_tableOut C.1 C.2.1 d h ht (k ls H locs hl hP hS)
theorem aw_ls (C : Ctx K own cc) {dflt : Int} {ps : Array (Int × Int)} {len : Nat} {x : Int32} (off : Int) (tgt : Nat) (d : decode cc pc = .ok (.lookupswitch dflt ps, len)) (hp : (ps.toList.zip (ps.toList.drop 1)).all (fun (a, next) => a.1 < next.1) = true) (ho : Op.lookupswitch.offset ps.toList dflt x.toInt = off) (ht : (pc : Int) + off = (tgt : Int)) (k : AW K n M P tgt loc st) : AW K n M P pc loc (.int x :: st) :=
  fun ls H locs hl hP hS => lv_lookup C.1 C.2.1 d hp ho ht (k ls H locs hl hP hS)
/-- cell k is there, and of which kind and size -/
def OB (n k ci N : Nat) : Prop := k < n ∧ k < 1000 ∧ shf k = (ci, N)
theorem wad_lt {w : Wd} {k : Nat} (h : k < 1000) : wad w k = wSz w + k := if_pos h
theorem cl_lt {ci : Nat} {r : vw_C} (h : vwCl[ci]? = some r) : ci < 9 := (List.getElem?_eq_some_iff.mp h).1
theorem ent_ob {w : Wd} {M : Mem} {P : Pm} {k ci N : Nat} (hs : shf k = (ci, N)) (hc : ci < 9) : ent w M P k = .inr (ci, (List.range N).map (fvl w M P ci k)) := by
  unfold ent
  rw [hs, if_pos (show ci < 20 by omega)]
theorem ent_ar {w : Wd} {M : Mem} {P : Pm} {k t N : Nat} (hs : shf k = (t + 20, N)) (ht : t < 2) : ent w M P k = .inl (wA w t, N, .inl (M k)) := by
  unfold ent
  rw [hs, if_neg (show ¬ t + 20 < 20 by omega), if_pos (show t + 20 < 22 by omega), Nat.add_sub_cancel]
theorem ent_rf {w : Wd} {M : Mem} {P : Pm} {k t N : Nat} (hs : shf k = (t + 20, N)) (ht : 2 ≤ t) : ent w M P k = .inl (wA w t, N, .inr (.inr (.inr (.inr (fun j => (P k j).map (wad w)))))) := by
  unfold ent
  rw [hs, if_neg (show ¬ t + 20 < 20 by omega), if_neg (show ¬ t + 20 < 22 by omega), Nat.add_sub_cancel]
theorem ent_wr {w : Wd} {M : Mem} {P : Pm} {k j q : Nat} {x : Int32} (h : q ≠ k) : ent w (wr M k j x) P q = ent w M P q := by
  have e : wr M k j x q = M q := wr_ne h
  unfold ent fvl
  rw [e]
theorem rng_set {N j : Nat} {f g : Nat → Value} {v : Value} (hj : g j = v) (ho : ∀ i, i < N → i ≠ j → g i = f i) : ((List.range N).map f).set j v = (List.range N).map g := by
  apply List.ext_getElem?
  intro i
  by_cases hi : i < N
  · by_cases hij : j = i
    · subst hij
      rw [List.getElem?_set_self (by simpa using hi)]
      simp [hi, hj]
    · rw [List.getElem?_set_ne hij]
      simp [hi, ho i hi (fun z => hij z.symm)]
  · rw [List.getElem?_eq_none (by simp; omega), List.getElem?_eq_none (by simp; omega)]
theorem aw_get (C : Ctx K own cc) {k ci N j ix : Nat} {Cn : String} {T : u_T} (ob : OB n k ci N) (hc : vwCl[ci]? = some (Cn, T, N)) (hj : j < N) (hf : fso (vty ci j) = 0) (hg : Cond.fieldLink own ix (T j).1 (T j).2.1 (T j).2.2.1 ∈ lw_gd) (d : decode cc pc = .ok (.getfield ix, 3)) (kk : AW K n M P (pc + 3) loc (.int (M k j) :: st)) : AW K n M P pc loc (.ref k :: st) := by
  intro ls H locs hl hP hS
  have h9 := cl_lt hc
  have he := wsO_at (w := kw K) (M := M) (P := P) ob.1
  rw [ent_ob ob.2.2 h9] at he
  have e : (List.map (cv (kw K)) (.ref k :: st)) = .ref (wSz (kw K) + k) :: st.map (cv (kw K)) := by
    rw [List.map_cons]; show Value.ref (wad (kw K) k) :: _ = _; rw [wad_lt ob.2.1]
  rw [e]
  exact va_get C.1 C.2.1 C.2.2.2.2.1 (cl_words _ (List.mem_of_getElem? hc)) C.2.2.2.1 C.2.2.2.2.2.1.1 hP k he hc j hj (C.2.2.2.2.1 _ hg) (fun _ h => h) (v := .int (M k j)) (by simp [hj, fvl, hf]) d (kk ls H locs hl hP hS)
theorem aw_getL (C : Ctx K own cc) {k ci N j ix : Nat} {Cn : String} {T : u_T} (ob : OB n k ci N) (hc : vwCl[ci]? = some (Cn, T, N)) (hj : j < N) (hf : fso (vty ci j) = 2) (hg : Cond.fieldLink own ix (T j).1 (T j).2.1 (T j).2.2.1 ∈ lw_gd) (d : decode cc pc = .ok (.getfield ix, 3)) (kk : AW K n M P (pc + 3) loc (.long (lgc (M k (j + 100)) (M k j)) :: st)) : AW K n M P pc loc (.ref k :: st) := by
  intro ls H locs hl hP hS
  have h9 := cl_lt hc
  have he := wsO_at (w := kw K) (M := M) (P := P) ob.1
  rw [ent_ob ob.2.2 h9] at he
  have e : (List.map (cv (kw K)) (.ref k :: st)) = .ref (wSz (kw K) + k) :: st.map (cv (kw K)) := by
    rw [List.map_cons]; show Value.ref (wad (kw K) k) :: _ = _; rw [wad_lt ob.2.1]
  rw [e]
  exact va_get C.1 C.2.1 C.2.2.2.2.1 (cl_words _ (List.mem_of_getElem? hc)) C.2.2.2.1 C.2.2.2.2.2.1.1 hP k he hc j hj (C.2.2.2.2.1 _ hg) (fun _ h => h) (v := .long (lgc (M k (j + 100)) (M k j))) (by simp [hj, fvl, hf]) d (kk ls H locs hl hP hS)
theorem aw_getR (C : Ctx K own cc) {k ci N j ix r : Nat} {Cn : String} {T : u_T} (ob : OB n k ci N) (hc : vwCl[ci]? = some (Cn, T, N)) (hj : j < N) (hf : fso (vty ci j) = 1) (hr : P k j = some r) (hg : Cond.fieldLink own ix (T j).1 (T j).2.1 (T j).2.2.1 ∈ lw_gd) (d : decode cc pc = .ok (.getfield ix, 3)) (kk : AW K n M P (pc + 3) loc (.ref r :: st)) : AW K n M P pc loc (.ref k :: st) := by
  intro ls H locs hl hP hS
  have h9 := cl_lt hc
  have he := wsO_at (w := kw K) (M := M) (P := P) ob.1
  rw [ent_ob ob.2.2 h9] at he
  have e : (List.map (cv (kw K)) (.ref k :: st)) = .ref (wSz (kw K) + k) :: st.map (cv (kw K)) := by
    rw [List.map_cons]; show Value.ref (wad (kw K) k) :: _ = _; rw [wad_lt ob.2.1]
  rw [e]
  exact va_get C.1 C.2.1 C.2.2.2.2.1 (cl_words _ (List.mem_of_getElem? hc)) C.2.2.2.1 C.2.2.2.2.2.1.1 hP k he hc j hj (C.2.2.2.2.1 _ hg) (fun _ h => h) (v := .ref (wad (kw K) r)) (by simp [hj, fvl, hf, hr, va_rf]) d (kk ls H locs hl hP hS)
theorem aw_put (C : Ctx K own cc) {k ci N j ix : Nat} {x : Int32} {Cn : String} {T : u_T} (ob : OB n k ci N) (hc : vwCl[ci]? = some (Cn, T, N)) (hj : j < N) (hj2 : N ≤ 100) (hf : fso (vty ci j) = 0) (hfin : (T j).2.2.2 = false) (hn : narrow (vty ci j) (.int x) = .int x) (hfit : fits (vty ci j) (.int x) = true) (hg : Cond.fieldLink own ix (T j).1 (T j).2.1 (T j).2.2.1 ∈ lw_gd) (d : decode cc pc = .ok (.putfield ix, 3)) (kk : AW K n (wr M k j x) P (pc + 3) loc st) : AW K n M P pc loc (.int x :: .ref k :: st) := by
  intro ls H locs hl hP hS
  have h9 := cl_lt hc
  have he := wsO_at (w := kw K) (M := M) (P := P) ob.1
  rw [ent_ob ob.2.2 h9] at he
  have e : (List.map (cv (kw K)) (.int x :: .ref k :: st)) = .int x :: .ref (wSz (kw K) + k) :: st.map (cv (kw K)) := by
    rw [List.map_cons, List.map_cons]; show _ :: Value.ref (wad (kw K) k) :: _ = _; rw [wad_lt ob.2.1]; rfl
  rw [e]
  refine va_put C.1 C.2.1 C.2.2.2.2.1 (cl_words _ (List.mem_of_getElem? hc)) (vty ci) (vty_ok ci h9 _ hc) (vnm_ok ci h9 _ hc) C.2.2.2.1 C.2.2.2.2.2.1.1 hP wsO_D hS k he hc j hj (C.2.2.2.2.1 _ hg) (fun _ h => h) hfin (vty_ok ci h9 _ hc j hj) hn hfit (by simp; exact hj) d (fun H1 locs1 hP1 _ hS1 => kk ls H1 locs1 hl ?_ hS1)
  rw [← wsO_set (M' := wr M k j x) (P' := P) ob.1 _ (fun q _ hq => ent_wr hq)]
  · exact hP1
  · rw [ent_ob ob.2.2 h9]
    refine congrArg (fun l => Sum.inr (ci, l)) (rng_set ?_ ?_).symm
    · simp [fvl, hf, wr_same]
    · intro i _ hi
      unfold fvl
      have a1 : wr M k j x k i = M k i := wr_at hi
      have a2 : wr M k j x k (i + 100) = M k (i + 100) := wr_at (by omega)
      rw [a1, a2]
theorem aw_putL (C : Ctx K own cc) {k ci N j ix : Nat} {x : Int64} {Cn : String} {T : u_T} (ob : OB n k ci N) (hc : vwCl[ci]? = some (Cn, T, N)) (hj : j < N) (hj2 : N ≤ 100) (hf : vty ci j = .long) (hfin : (T j).2.2.2 = false) (hg : Cond.fieldLink own ix (T j).1 (T j).2.1 (T j).2.2.1 ∈ lw_gd) (d : decode cc pc = .ok (.putfield ix, 3)) (kk : AW K n (wr (wr M k (j + 100) (lgHi x)) k j (lgLo x)) P (pc + 3) loc st) : AW K n M P pc loc (.long x :: .ref k :: st) := by
  intro ls H locs hl hP hS
  have h9 := cl_lt hc
  have he := wsO_at (w := kw K) (M := M) (P := P) ob.1
  rw [ent_ob ob.2.2 h9] at he
  have e : (List.map (cv (kw K)) (.long x :: .ref k :: st)) = .long x :: .ref (wSz (kw K) + k) :: st.map (cv (kw K)) := by
    rw [List.map_cons, List.map_cons]; show _ :: Value.ref (wad (kw K) k) :: _ = _; rw [wad_lt ob.2.1]; rfl
  rw [e]
  refine va_put C.1 C.2.1 C.2.2.2.2.1 (cl_words _ (List.mem_of_getElem? hc)) (vty ci) (vty_ok ci h9 _ hc) (vnm_ok ci h9 _ hc) C.2.2.2.1 C.2.2.2.2.2.1.1 hP wsO_D hS k he hc j hj (C.2.2.2.2.1 _ hg) (fun _ h => h) hfin (vty_ok ci h9 _ hc j hj) (by rw [hf]; rfl) (by rw [hf]; rfl) (by simp; exact hj) d (fun H1 locs1 hP1 _ hS1 => kk ls H1 locs1 hl ?_ hS1)
  rw [← wsO_set (M := M) (P := P) (M' := wr (wr M k (j + 100) (lgHi x)) k j (lgLo x)) (P' := P) ob.1 _ (fun q _ hq => by rw [ent_wr hq, ent_wr hq])]
  · exact hP1
  · rw [ent_ob ob.2.2 h9]
    refine congrArg (fun l => Sum.inr (ci, l)) (rng_set ?_ ?_).symm
    · have a1 : wr (wr M k (j + 100) (lgHi x)) k j (lgLo x) k j = lgLo x := wr_same
      have a2 : wr (wr M k (j + 100) (lgHi x)) k j (lgLo x) k (j + 100) = lgHi x := by rw [wr_at (by omega)]; exact wr_same
      unfold fvl
      rw [a1, a2, hf, lgc_eq]
      rfl
    · intro i hi2 hi
      unfold fvl
      have a0 : ∀ b, b ≠ j → b ≠ j + 100 → wr (wr M k (j + 100) (lgHi x)) k j (lgLo x) k b = M k b := fun b h1 h2 => by rw [wr_at h1, wr_at h2]
      rw [a0 i hi (by omega), a0 (i + 100) (by omega) (by omega)]
/-- arrays -/
abbrev ib (i : Int32) (N : Nat) : Prop := 0 ≤ i.toInt ∧ i.toInt < N
abbrev ix (i : Int32) : Nat := i.toInt.toNat
theorem ib_in {i : Int32} {N : Nat} (h : ib i N) : vp_in i N := vp_in_iff.mpr h
theorem cvr {w : Wd} {k : Nat} (h : k < 1000) : cv w (.ref k) = .ref (wSz w + k) := by show Value.ref (wad w k) = _; rw [wad_lt h]
theorem ent_ro {w : Wd} {M : Mem} {P : Pm} {k q : Nat} {f : Nat → Int32} (h : q ≠ k) : ent w (fun a => if a = k then f else M a) P q = ent w M P q := by
  unfold ent fvl
  simp only [if_neg h]
/-- a whole row -/
def wrR (M : Mem) (k : Nat) (f : Nat → Int32) : Mem := fun a => if a = k then f else M a
theorem aw_iald (C : Ctx K own cc) {k N : Nat} {i : Int32} (ob : OB n k 20 N) (d : decode cc pc = .ok (.iaload, 1)) (h : (if ib i N then A else none) = some r) (kk : A = some r → AW K n M P (pc + 1) loc (.int (M k (ix i)) :: st)) : AW K n M P pc loc (.int i :: .ref k :: st) := by
  intro ls H locs hl hP hS
  have he := wsO_at (w := kw K) (M := M) (P := P) ob.1
  rw [ent_ar (t := 0) ob.2.2 (by decide)] at he
  rw [List.map_cons, List.map_cons, cvr ob.2.1]
  by_cases hin : ib i N
  · rw [if_pos hin] at h
    exact va_iald C.1 C.2.1 C.2.2.2.2.2.1.1 hP k 0 he rfl (ib_in hin) d (kk h ls H locs hl hP hS)
  · rw [if_neg hin] at h
    cases h
theorem aw_zald (C : Ctx K own cc) {k N : Nat} {i : Int32} (ob : OB n k 21 N) (d : decode cc pc = .ok (.baload, 1)) (h : (if ib i N then A else none) = some r) (kk : A = some r → AW K n M P (pc + 1) loc (.int (M k (ix i)) :: st)) : AW K n M P pc loc (.int i :: .ref k :: st) := by
  intro ls H locs hl hP hS
  have he := wsO_at (w := kw K) (M := M) (P := P) ob.1
  rw [ent_ar (t := 1) ob.2.2 (by decide)] at he
  rw [List.map_cons, List.map_cons, cvr ob.2.1]
  by_cases hin : ib i N
  · rw [if_pos hin] at h
    exact va_zald C.1 C.2.1 C.2.2.2.2.2.1.1 hP k 1 he rfl (ib_in hin) d (kk h ls H locs hl hP hS)
  · rw [if_neg hin] at h
    cases h
theorem aw_iast (C : Ctx K own cc) {k N : Nat} {i x : Int32} (ob : OB n k 20 N) (d : decode cc pc = .ok (.iastore, 1)) (h : (if ib i N then A else none) = some r) (kk : A = some r → AW K n (wr M k (ix i) x) P (pc + 1) loc st) : AW K n M P pc loc (.int x :: .int i :: .ref k :: st) := by
  intro ls H locs hl hP hS
  have he := wsO_at (w := kw K) (M := M) (P := P) ob.1
  rw [ent_ar (t := 0) ob.2.2 (by decide)] at he
  rw [List.map_cons, List.map_cons, List.map_cons, cvr ob.2.1]
  by_cases hin : ib i N
  · rw [if_pos hin] at h
    refine va_iast C.1 C.2.1 C.2.2.2.2.2.1.1 hP wsO_D hS k 0 he rfl (ib_in hin) d (fun H1 locs1 hP1 _ hS1 => kk h ls H1 locs1 hl ?_ hS1)
    rw [← wsO_set (M := M) (P := P) (M' := wr M k (ix i) x) (P' := P) ob.1 _ (fun q _ hq => ent_wr hq)]
    · exact hP1
    · rw [ent_ar (t := 0) ob.2.2 (by decide), wr_row]; rfl
  · rw [if_neg hin] at h
    cases h
theorem aw_zast (C : Ctx K own cc) {k N : Nat} {i x : Int32} (ob : OB n k 21 N) (d : decode cc pc = .ok (.bastore, 1)) (h : (if ib i N then A else none) = some r) (kk : A = some r → AW K n (wr M k (ix i) (vp_nar .boolean x)) P (pc + 1) loc st) : AW K n M P pc loc (.int x :: .int i :: .ref k :: st) := by
  intro ls H locs hl hP hS
  have he := wsO_at (w := kw K) (M := M) (P := P) ob.1
  rw [ent_ar (t := 1) ob.2.2 (by decide)] at he
  rw [List.map_cons, List.map_cons, List.map_cons, cvr ob.2.1]
  by_cases hin : ib i N
  · rw [if_pos hin] at h
    refine va_zast C.1 C.2.1 C.2.2.2.2.2.1.1 hP wsO_D hS k 1 he rfl (ib_in hin) d (fun H1 locs1 hP1 _ hS1 => kk h ls H1 locs1 hl ?_ hS1)
    rw [← wsO_set (M := M) (P := P) (M' := wr M k (ix i) (vp_nar .boolean x)) (P' := P) ob.1 _ (fun q _ hq => ent_wr hq)]
    · exact hP1
    · rw [ent_ar (t := 1) ob.2.2 (by decide), wr_row]; rfl
  · rw [if_neg hin] at h
    cases h
theorem tys_at {w : Wd} {t : Nat} (ht : t < 5) : ∃ ty, (tysO w)[t]? = some (wA w t, ty) := by
  match t, ht with
  | 0, _ => exact ⟨_, rfl⟩
  | 1, _ => exact ⟨_, rfl⟩
  | 2, _ => exact ⟨_, rfl⟩
  | 3, _ => exact ⟨_, rfl⟩
  | 4, _ => exact ⟨_, rfl⟩
theorem aw_alen (C : Ctx K own cc) (t : Nat) {k N : Nat} {v : Int32} (ob : OB n k (t + 20) N) (ht : t < 2) (hv : Int32.ofNat N = v) (d : decode cc pc = .ok (.arraylength, 1)) (kk : AW K n M P (pc + 1) loc (.int v :: st)) : AW K n M P pc loc (.ref k :: st) := by
  intro ls H locs hl hP hS
  have he := wsO_at (w := kw K) (M := M) (P := P) ob.1
  rw [ent_ar ob.2.2 ht] at he
  rw [List.map_cons, cvr ob.2.1]
  obtain ⟨ty, hty⟩ := tys_at (w := kw K) (show t < 5 by omega)
  exact va_alen C.1 C.2.1 C.2.2.2.2.2.1.1 hP k t he hty hv d (kk ls H locs hl hP hS)
theorem aw_aald (C : Ctx K own cc) (t : Nat) {k N q : Nat} {i : Int32} {Cn : String} (ob : OB n k (t + 20) N) (ht : 2 ≤ t) (hty : (tysO (kw K))[t]? = some (wA (kw K) t, .object Cn)) (d : decode cc pc = .ok (.aaload, 1)) (h : (if ib i N then A else none) = some r) (hq : ib i N → P k (ix i) = some q) (kk : A = some r → AW K n M P (pc + 1) loc (.ref q :: st)) : AW K n M P pc loc (.int i :: .ref k :: st) := by
  intro ls H locs hl hP hS
  have he := wsO_at (w := kw K) (M := M) (P := P) ob.1
  rw [ent_rf ob.2.2 ht] at he
  rw [List.map_cons, List.map_cons, cvr ob.2.1]
  by_cases hin : ib i N
  · rw [if_pos hin] at h
    refine va_aldq C.1 C.2.1 C.2.2.2.2.2.1.1 hP k t he hty (ib_in hin) d ?_
    rw [show P k i.toNatClampNeg = some q from hq hin]
    exact kk h ls H locs hl hP hS
  · rw [if_neg hin] at h
    cases h
/-- the copy of a stretch of an int array -/
theorem aw_copy (C : Ctx K own cc) {k1 k2 N1 N2 lk : Nat} {sp dp m : Int32} (ob1 : OB n k1 20 N1) (ob2 : OB n k2 20 N2) (hg : Cond.methodLink own lk arraycopyName ∈ lw_gd) (hst : (st.map fun v => v.category).sum ≤ 20) (d : decode cc pc = .ok (.invokestatic lk, 3)) (h : (if 0 ≤ sp.toInt ∧ 0 ≤ dp.toInt ∧ 0 ≤ m.toInt ∧ sp.toInt + m.toInt ≤ N1 ∧ dp.toInt + m.toInt ≤ N2 then A else none) = some r) (hw : Cond.native arraycopyName ∈ lw_gd ∧ Cond.static arraycopyName ∈ lw_gd ∧ Cond.initialized "java/lang/System" ∈ lw_gd)
    (kk : A = some r → AW K n (wrR M k2 (va_cpy (M k1) (M k2) (ix sp) (ix dp) (ix m))) P (pc + 3) loc st) : AW K n M P pc loc (.int m :: .int dp :: .ref k2 :: .int sp :: .ref k1 :: st) := by
  intro ls H locs hl hP hS
  have he1 := wsO_at (w := kw K) (M := M) (P := P) ob1.1
  have he2 := wsO_at (w := kw K) (M := M) (P := P) ob2.1
  rw [ent_ar (t := 0) ob1.2.2 (by decide)] at he1
  rw [ent_ar (t := 0) ob2.2.2 (by decide)] at he2
  rw [List.map_cons, List.map_cons, List.map_cons, List.map_cons, List.map_cons, cvr ob1.2.1, cvr ob2.2.1]
  split at h
  · rename_i hc
    obtain ⟨c1, c2, c3, c4, c5⟩ := hc
    have hR := C.2.2.2.2.2.2.2.2
    refine va_copyi C.1 C.2.1 (C.2.2.1.trans hl.1.symm) C.2.2.2.1 (C.2.2.2.2.1 _ hg) (C.2.2.2.2.1 _ hw.1) (C.2.2.2.2.1 _ hw.2.1) (C.2.2.2.2.1 _ hw.2.2) C.2.2.2.2.2.1.1 hP wsO_D hS k1 k2 0 0 he1 he2 rfl rfl rfl (by rw [Int32.lt_iff_toInt_lt]; exact Int.not_lt.mpr c1) (by rw [Int32.lt_iff_toInt_lt]; exact Int.not_lt.mpr c2) (by rw [Int32.lt_iff_toInt_lt]; exact Int.not_lt.mpr c3) (show ix sp + ix m ≤ N1 by simp only [ix]; omega) (show ix dp + ix m ≤ N2 by simp only [ix]; omega) (fun i _ => rfl) hR.1 ?_ d (fun H1 locs1 hP1 _ hS1 => kk h ls H1 locs1 hl ?_ hS1)
    · have e : ((st.map (cv (kw K))).map fun v => v.category) = st.map fun v => v.category := by
        rw [List.map_map]
        exact List.map_congr_left (fun v _ => cv_cat _ v)
      rw [e]
      have : nativeFrameWords "java/lang/System" "arraycopy" 5 = 7 := by decide +kernel
      omega
    · rw [← wsO_set (M := M) (P := P) (M' := wrR M k2 (va_cpy (M k1) (M k2) (ix sp) (ix dp) (ix m))) (P' := P) ob2.1 _ (fun q _ hq => ent_ro hq)]
      · exact hP1
      · rw [ent_ar (t := 0) ob2.2.2 (by decide)]
        simp only [wrR, if_true]
        rfl
  · cases h
/-- static arrays and what was there before -/
theorem wad_x {w : Wd} {j : Nat} : wad w (1000 + j) = wX w j := by
  unfold wad
  rw [if_neg (by omega), Nat.add_sub_cancel_left]
theorem aw_gets (C : Ctx K own cc) (nm : String) (j : Nat) (vs : List Int32) {lk : Nat} (hm : (nm, j, vs) ∈ ownStat) (hg : Cond.fieldLink own lk RX7 nm "[I" ∈ lw_gd) (d : decode cc pc = .ok (.getstatic lk, 3)) (kk : AW K n M P (pc + 3) loc (.ref (1000 + j) :: st)) : AW K n M P pc loc st := by
  intro ls H locs hl hP hS
  refine va_gets C.1 C.2.1 (C.2.2.2.2.2.1.2.2.1 _ hm).1 hS C.2.2.2.1 (C.2.2.2.2.1 _ hg) (fun _ h => h) d ?_
  have := kk ls H locs hl hP hS
  rw [List.map_cons] at this
  show W _ _ _ _ _ _ _ _ _ _ _ _ _ _ _ (F0 _ _ _ (.ref (wX (kw K) j) :: _))
  rw [← wad_x]
  exact this
theorem aw_getsN (C : Ctx K own cc) (nm : String) (j : Nat) (vs : List Int32) {host : String} {lk : Nat} (hm : (nm, j, vs) ∈ ownStat) (hg : (own, lk, RX7, nm, "[I", host) ∈ nstF) (d : decode cc pc = .ok (.getstatic lk, 3)) (kk : AW K n M P (pc + 3) loc (.ref (1000 + j) :: st)) : AW K n M P pc loc st := by
  intro ls H locs hl hP hS
  refine va_getsN C.1 C.2.1 (C.2.2.2.2.2.1.2.2.1 _ hm).1 hS C.2.2.2.1 (va_Nw.use rfl (C.2.2.2.2.2.1.2.1.2 _ hg)) (fun _ h => h) d ?_
  have := kk ls H locs hl hP hS
  rw [List.map_cons] at this
  show W _ _ _ _ _ _ _ _ _ _ _ _ _ _ _ (F0 _ _ _ (.ref (wX (kw K) j) :: _))
  rw [← wad_x]
  exact this
theorem aw_ialdS (C : Ctx K own cc) (nm : String) (j : Nat) (vs : List Int32) {i : Int32} (hm : (nm, j, vs) ∈ ownStat) (d : decode cc pc = .ok (.iaload, 1)) (h : (if ib i 6 then A else none) = some r) (kk : A = some r → AW K n M P (pc + 1) loc (.int (vs.getD (ix i) 0) :: st)) : AW K n M P pc loc (.int i :: .ref (1000 + j) :: st) := by
  intro ls H locs hl hP hS
  have e : (List.map (cv (kw K)) (.int i :: .ref (1000 + j) :: st)) = .int i :: .ref (wX (kw K) j) :: st.map (cv (kw K)) := by
    rw [List.map_cons, List.map_cons]; show _ :: Value.ref (wad (kw K) (1000 + j)) :: _ = _; rw [wad_x]; rfl
  rw [e]
  by_cases hin : ib i 6
  · rw [if_pos hin] at h
    exact va_ti C.1 C.2.1 (C.2.2.2.2.2.1.2.2.1 _ hm).2 hS (ib_in hin) rfl d (kk h ls H locs hl hP hS)
  · rw [if_neg hin] at h
    cases h
theorem aw_alenS (C : Ctx K own cc) (nm : String) (j : Nat) (vs : List Int32) (hm : (nm, j, vs) ∈ ownStat) (d : decode cc pc = .ok (.arraylength, 1)) (kk : AW K n M P (pc + 1) loc (.int 6 :: st)) : AW K n M P pc loc (.ref (1000 + j) :: st) := by
  intro ls H locs hl hP hS
  have e : (List.map (cv (kw K)) (.ref (1000 + j) :: st)) = .ref (wX (kw K) j) :: st.map (cv (kw K)) := by
    rw [List.map_cons]; show Value.ref (wad (kw K) (1000 + j)) :: _ = _; rw [wad_x]
  rw [e]
  exact va_tlen C.1 C.2.1 (C.2.2.2.2.2.1.2.2.1 _ hm).2 hS rfl d (kk ls H locs hl hP hS)
/-- the script -/
theorem aw_ialdX (C : Ctx K own cc) {i : Int32} (d : decode cc pc = .ok (.iaload, 1)) (hin : ib i (wL (kw K))) (kk : AW K n M P (pc + 1) loc (.int (wS (kw K) (ix i)) :: st)) : AW K n M P pc loc (.int i :: .ref 1000 :: st) := by
  intro ls H locs hl hP hS
  have e : (List.map (cv (kw K)) (.int i :: .ref 1000 :: st)) = .int i :: .ref (wX (kw K) 0) :: st.map (cv (kw K)) := by
    rw [List.map_cons, List.map_cons]; show _ :: Value.ref (wad (kw K) (1000 + 0)) :: _ = _; rw [wad_x]; rfl
  rw [e]
  have g := C.2.2.2.2.2.1.2.2.2.2.2.2.2.1
  exact va_sld C.1 C.2.1 g.1 g.2.1 g.2.2 hS (ib_in hin) d (kk ls H locs hl hP hS)
theorem aw_alenX (C : Ctx K own cc) (d : decode cc pc = .ok (.arraylength, 1)) (kk : AW K n M P (pc + 1) loc (.int (Int32.ofNat (wL (kw K))) :: st)) : AW K n M P pc loc (.ref 1000 :: st) := by
  intro ls H locs hl hP hS
  have e : (List.map (cv (kw K)) (.ref 1000 :: st)) = .ref (wX (kw K) 0) :: st.map (cv (kw K)) := by
    rw [List.map_cons]; show Value.ref (wad (kw K) (1000 + 0)) :: _ = _; rw [wad_x]
  rw [e]
  have g := C.2.2.2.2.2.1.2.2.2.2.2.2.2.1
  exact va_slen C.1 C.2.1 g.1 g.2.1 g.2.2 hS d (kk ls H locs hl hP hS)
/-- Math -/
theorem cat_map {w : Wd} : (((st.map (cv w)).map fun v => v.category) : List Nat) = st.map fun v => v.category := by
  rw [List.map_map]
  exact List.map_congr_left (fun v _ => cv_cat _ v)
theorem aw_max (C : Ctx K own cc) {lk : Nat} {x y : Int32} (hg : Cond.methodLink own lk Lib.Math.max.name ∈ lw_gd) (hw : Cond.static Lib.Math.max.name ∈ lw_gd ∧ Cond.initialized "java/lang/Math" ∈ lw_gd ∧ Cond.code Lib.Math.max.name Lib.Math.max.code 2 (some .int) ∈ lw_gd) (hst : (st.map fun v => v.category).sum ≤ 20) (hc : n - kn K ≤ (kR K).cells ∧ sln n - sln (kn K) ≤ (kR K).slots) (d : decode cc pc = .ok (.invokestatic lk, 3)) (kk : AW K n M P (pc + 3) loc (.int (if x < y then y else x) :: st)) : AW K n M P pc loc (.int y :: .int x :: st) := by
  intro ls H locs hl hP hS
  have hR := C.2.2.2.2.2.2.2.2
  exact va_mmax C.1 C.2.1 (C.2.2.1.trans hl.1.symm) C.2.2.2.1 (C.2.2.2.2.1 _ hg) (C.2.2.2.2.1 _ hw.1) (C.2.2.2.2.1 _ hw.2.1) (C.2.2.2.2.1 _ hw.2.2) hR.1 (by rw [cat_map]; omega) hc.1 hc.2 d (kk ls H locs hl hP hS)
theorem aw_min (C : Ctx K own cc) {lk : Nat} {x y : Int32} (hg : Cond.methodLink own lk Lib.Math.min.name ∈ lw_gd) (hw : Cond.static Lib.Math.min.name ∈ lw_gd ∧ Cond.initialized "java/lang/Math" ∈ lw_gd ∧ Cond.code Lib.Math.min.name Lib.Math.min.code 2 (some .int) ∈ lw_gd) (hst : (st.map fun v => v.category).sum ≤ 20) (hc : n - kn K ≤ (kR K).cells ∧ sln n - sln (kn K) ≤ (kR K).slots) (d : decode cc pc = .ok (.invokestatic lk, 3)) (kk : AW K n M P (pc + 3) loc (.int (if y < x then y else x) :: st)) : AW K n M P pc loc (.int y :: .int x :: st) := by
  intro ls H locs hl hP hS
  have hR := C.2.2.2.2.2.2.2.2
  exact va_mmin C.1 C.2.1 (C.2.2.1.trans hl.1.symm) C.2.2.2.1 (C.2.2.2.2.1 _ hg) (C.2.2.2.2.1 _ hw.1) (C.2.2.2.2.1 _ hw.2.1) (C.2.2.2.2.1 _ hw.2.2) hR.1 (by rw [cat_map]; omega) hc.1 hc.2 d (kk ls H locs hl hP hS)
theorem aw_abs (C : Ctx K own cc) {lk : Nat} {x : Int32} (hg : Cond.methodLink own lk Lib.Math.abs.name ∈ lw_gd) (hw : Cond.static Lib.Math.abs.name ∈ lw_gd ∧ Cond.initialized "java/lang/Math" ∈ lw_gd ∧ Cond.code Lib.Math.abs.name Lib.Math.abs.code 1 (some .int) ∈ lw_gd) (hst : (st.map fun v => v.category).sum ≤ 20) (hc : n - kn K ≤ (kR K).cells ∧ sln n - sln (kn K) ≤ (kR K).slots) (d : decode cc pc = .ok (.invokestatic lk, 3)) (kk : AW K n M P (pc + 3) loc (.int (if 0 ≤ x then x else 0 - x) :: st)) : AW K n M P pc loc (.int x :: st) := by
  intro ls H locs hl hP hS
  have hR := C.2.2.2.2.2.2.2.2
  exact va_mabs C.1 C.2.1 (C.2.2.1.trans hl.1.symm) C.2.2.2.1 (C.2.2.2.2.1 _ hg) (C.2.2.2.2.1 _ hw.1) (C.2.2.2.2.1 _ hw.2.1) (C.2.2.2.2.1 _ hw.2.2) hR.1 (by rw [cat_map]; omega) hc.1 hc.2 d (kk ls H locs hl hP hS)
end R4
end
section
/-! 05: calls, returns, contracts -/
def rm (lv mc ms : Nat) : Room := { frames := lv, cells := mc, slots := ms, locals := 40 * lv }
abbrev Tg : Type := Option Value → Nat → Mem → Pm → Prop
def Qm (w : Wd) (T : Tg) : Array Value → State → Outcome → State → Prop := fun _ st oc t => ∃ (rv : Option Value) (n1 : Nat) (M1 : Mem) (P1 : Pm), oc = .returned (rv.map (cv w)) ∧ T rv n1 M1 P1 ∧ va_P (wG w) vwCl (wsO w n1 M1 P1) t.heap ∧ va_F (fun q => wSz w ≤ q) st t
/-- a method's contract from the world (n, M, P) on: it ends, and T holds of what it answers and of the world behind it -/
def CM (l : Launch) (w : Wd) (y : MethodName) (cc : ByteArray) (maxL : Nat) (ret : Option FieldType) (lv mc ms : Nat) (as : List Value) (n : Nat) (M : Mem) (P : Pm) (T : Tg) : Prop :=
  Met l y (.code y cc maxL ret :: lw_gd) (rm lv mc ms) (va_Pc (as.map (cv w)) (fun U => GW w U ∧ U.heap.size = wSz w + n ∧ va_P (wG w) vwCl (wsO w n M P) U.heap)) (Qm w T) mc ms (fun q => wSz w ≤ q)
/-- what is asked of a method that is called -/
def MF (y : MethodName) (cc : ByteArray) (maxL : Nat) (ret : Option FieldType) (na : Nat) : Prop :=
  Cond.code y cc maxL ret ∈ lw_gd ∧ Cond.initialized y.cls ∈ lw_gd ∧ (y.cls ≠ "java/lang/invoke/MethodHandle" ∧ y.cls ≠ "java/lang/invoke/VarHandle" ∧ (parseMethodDescriptor y.desc).map (fun d => d.parameters.length) = some na) ∧ plainName y.cls = true ∧ maxL ≤ 20
def RT (K : Cx) (ret : Option FieldType) (T : Tg) (mc ms : Nat) : Prop := kQ K = MQ (kb K) (Qm (kw K) T) (ka K) (ks K) mc ms (fun q => wSz (kw K) ≤ q) ∧ (kmt K).sig.returnType = ret
def Rm (K : Cx) (n : Nat) : Prop := kn K ≤ n ∧ n - kn K ≤ (kR K).cells ∧ sln n - sln (kn K) ≤ (kR K).slots
theorem sln_mono {a b : Nat} (h : a ≤ b) : sln a ≤ sln b := by
  unfold sln
  obtain ⟨c, rfl⟩ := Nat.le.dest h
  rw [List.take_add, List.map_append, List.sum_append]
  omega
theorem gd_cons {y : MethodName} {cc : ByteArray} {maxL : Nat} {ret : Option FieldType} (h : Cond.code y cc maxL ret ∈ lw_gd) : GoodIn lw_gd (Cond.code y cc maxL ret :: lw_gd) := by
  intro w hw
  rcases List.mem_cons.mp hw with rfl | hw
  · exact gd_good _ h
  · exact gd_good _ hw
def entL : List Value → List (Option Value)
  | [] => []
  | v :: vs => some v :: (if v.category = 2 then none :: entL vs else entL vs)
def padL (n : Nat) (l : List (Option Value)) : List (Option Value) := l ++ List.replicate (n - l.length) none
theorem entL_len (w : Wd) : ∀ as : List Value, (lg_sl (as.map (cv w))).length = (entL as).length
  | [] => rfl
  | v :: vs => by
    have ih := entL_len w vs
    unfold lg_sl at ih ⊢
    rw [List.map_cons, List.flatMap_cons, List.length_append, ih]
    by_cases hc : v.category = 2
    · simp [entL, cv_cat, hc]; omega
    · simp [entL, cv_cat, hc]; omega
theorem entL_args (w : Wd) : ∀ (as : List Value) (b i : Nat) (v : Value), (entL as)[i]? = some (some v) → (b + i, cv w v) ∈ lv_args b (as.map (cv w))
  | [], b, i, v, h => by simp [entL] at h
  | u :: vs, b, i, v, h => by
    rw [List.map_cons]
    unfold lv_args
    rw [cv_cat]
    by_cases hc : u.category = 2
    · rw [if_pos hc]
      simp only [entL, hc, if_true] at h
      match i, h with
      | 0, h => simp at h; subst h; exact List.mem_cons_self
      | 1, h => simp at h
      | i + 2, h =>
        have := entL_args w vs (b + 2) i v (by simpa using h)
        rw [show b + 2 + i = b + (i + 2) by omega] at this
        exact List.mem_cons_of_mem _ this
    · rw [if_neg hc]
      simp only [entL, hc, if_false] at h
      match i, h with
      | 0, h => simp at h; subst h; exact List.mem_cons_self
      | i + 1, h =>
        have := entL_args w vs (b + 1) i v (by simpa using h)
        rw [show b + 1 + i = b + (i + 1) by omega] at this
        exact List.mem_cons_of_mem _ this
theorem padL_at {n i : Nat} {l : List (Option Value)} {v : Value} (h : (padL n l)[i]? = some (some v)) : l[i]? = some (some v) := by
  unfold padL at h
  by_cases hi : i < l.length
  · rw [List.getElem?_append_left hi] at h
    exact h
  · rw [List.getElem?_append_right (by omega)] at h
    have := List.eq_of_mem_replicate (List.mem_of_getElem? h)
    cases this
/-- a contract out of a walk -/
theorem cm_of {l : Launch} {w : Wd} {y : MethodName} {cc : ByteArray} {maxL : Nat} {ret : Option FieldType} {lv mc ms na : Nat} {as : List Value} {n : Nat} {M : Mem} {P : Pm} {T : Tg} {loc : List (Option Value)} (mf : MF y cc maxL ret na) (hlv : 1 ≤ lv) (has : (entL as).length ≤ maxL) (hloc : padL maxL (entL as) = loc)
    (body : ∀ K : Cx, Ctx K y.cls cc → RT K ret T mc ms → kl K = l → kw K = w → kL K = maxL → kn K = n → kR K = rm lv mc ms → (∀ z, (y.name = z) → (kmt K).name = z) → AW K n M P 0 loc []) : CM l w y cc maxL ret lv mc ms as n M P T := by
  refine Met.ofW (cc := cc) (maxL := maxL) (ret := ret) mf.2.2.2.1 rfl ?_
  intro p e s m args below meth c s₁ B hml hv
  obtain ⟨rfl, hG, hz, hP⟩ := hv
  have hts := atoms_spec (ws := Cond.code y cc maxL ret :: lw_gd) B.pre
  have C : Ctx (p, l, e, rm lv mc ms, s, m, (as.map (cv w)).toArray, below, meth, c, MQ below (Qm w T) (as.map (cv w)).toArray s mc ms (fun q => wSz w ≤ q), w, n, maxL) y.cls cc :=
    ⟨B.exec, B.bytes, hml, findClass_of_methodNamed B.named, fun u hu => hts u (List.mem_cons_of_mem _ hu), hG, hz, B.notSynchronized, hlv, Nat.le_refl _⟩
  have A := body _ C ⟨rfl, B.returns⟩ rfl rfl rfl rfl rfl (fun z hz => (name_of_methodNamed B.named B.method).1.trans hz)
  rw [lg_entry_eq]
  have h0 := lv_entry (as.map (cv w)) (n := maxL) (by rw [entL_len]; exact has)
  have hl : LOK w maxL ((lg_sl (as.map (cv w)) ++ List.replicate (maxL - (lg_sl (as.map (cv w))).length) Slot.unset).toArray) loc := by
    refine ⟨h0.1, h0.2.1, fun i v hv => ?_⟩
    rw [← hloc] at hv
    have := entL_args w as 0 i v (padL_at hv)
    rw [Nat.zero_add] at this
    exact h0.2.2 _ this
  have A2 := A _ s.heap [] hl hP va_S.rf
  simp only [Nat.sub_self] at A2
  exact A2
section R5
variable {K : Cx} {own : String} {cc : ByteArray} {n : Nat} {M : Mem} {P : Pm} {pc : Nat} {loc : List (Option Value)} {st : List Value}
theorem aw_size (C : Ctx K own cc) (hn : kn K ≤ n) {H : Heap} {locs : List Loc} {T : State} {sl : Nat} (hP : va_P (wG (kw K)) vwCl (wsO (kw K) n M P) H) (hS : va_S (fun q => wSz (kw K) ≤ q) (ks K).heap H locs) (hT : T.heap = H) (X : Stand (kp K) (kl K) (ke K) (kR K) (ks K) (km K) (ka K) (kb K) (kmt K) (kc K) T locs (n - kn K) sl) : H.size = wSz (kw K) + n := by
  have h1 := X.heapSize
  have h2 := C.2.2.2.2.2.2.1
  rw [hT] at h1
  have h3 := hS.1
  rcases Nat.lt_or_ge (kn K) n with q | q
  · have h4 := (hP (n - 1) _ (wsO_at (show n - 1 < n by omega))).lt
    dsimp only at h4
    omega
  · omega
theorem aw_after (hn : kn K ≤ n) {H : Heap} {locs : List Loc} {ls : Array Slot} {st0 : List Value} {rest : List Value} {mc ms : Nat} {T : Tg} {a : Array Value} {T0 : State} (hT0 : T0.heap = H) (X : Stand (kp K) (kl K) (ke K) (kR K) (ks K) (km K) (ka K) (kb K) (kmt K) (kc K) T0 locs (n - kn K) (sln n - sln (kn K)))
    (hr : va_Run (kp K) (kl K) (ke K) (kR K) (ks K) (km K) (ka K) (kb K) (kmt K) (kc K) H locs (n - kn K) (sln n - sln (kn K)) mc ms (F0 (km K) pc ls st0) (rest.map (cv (kw K))) (Qm (kw K) T a) (fun q => wSz (kw K) ≤ q)) (hS : va_S (fun q => wSz (kw K) ≤ q) (ks K).heap H locs) (hl : LOK (kw K) (kL K) ls loc)
    (hT : ∀ rv n1 M1 P1, T rv n1 M1 P1 → n1 = n + mc ∧ sln n1 = sln n + ms) (kk : ∀ rv n1 M1 P1, T rv n1 M1 P1 → AW K n1 M1 P1 (pc + 3) loc (rv.toList ++ rest)) :
    ∃ t, Steps (kp K).tables (ke K) (kb K) (T0.setTop (F0 (km K) pc ls st0)) t ∧ kQ K t := by
  obtain ⟨v, st₀, t, T', L, h0, X', hL, e1, e2, ⟨rv, n1, M1, P1, ho, ht, hP1, hz, hk⟩, st⟩ := hr T0 hT0 X
  cases ho
  rw [h0] at hz hk
  obtain ⟨z1, z2⟩ := hT _ _ _ _ ht
  have hm := sln_mono hn
  have hS' : va_S (fun q => wSz (kw K) ≤ q) (ks K).heap T'.heap (locs ++ L) := by
    refine ⟨Nat.le_trans hS.1 (by rw [e1]; exact hz), fun q h1 h2 => ?_, fun q hq => ?_⟩
    · rw [e1, hk q (Nat.lt_of_lt_of_le h1 hS.1) h2]
      exact hS.2.1 q h1 h2
    · rcases List.mem_append.mp hq with h | h
      · exact hS.2.2 q h
      · exact hL q h
  have A := kk rv n1 M1 P1 ht ls T'.heap (locs ++ L) hl (by rw [e1]; exact hP1) hS' T' rfl (by rw [show n1 - kn K = n - kn K + mc by omega, show sln n1 - sln (kn K) = sln n - sln (kn K) + ms by omega]; exact X')
  obtain ⟨t2, a1, b1⟩ := A
  refine ⟨t2, st t2 ?_, b1⟩
  have e : (rv.map (cv (kw K))).toList ++ rest.map (cv (kw K)) = (rv.toList ++ rest).map (cv (kw K)) := by cases rv <;> simp
  rw [e]
  exact a1
theorem pc_blind {w : Wd} {av : List Value} {n : Nat} {M : Mem} {P : Pm} : FrameBlind (va_Pc av (fun U => GW w U ∧ U.heap.size = wSz w + n ∧ va_P (wG w) vwCl (wsO w n M P) U.heap)) := fun _ _ _ _ q => ⟨q.1, q.2.1.blind, q.2.2⟩
theorem callB_gd (C : Ctx K own cc) {y : MethodName} {bytes : ByteArray} {maxL na lv mc ms lk : Nat} {ret : Option FieldType} (mf : MF y bytes maxL ret na) (hl : Cond.methodLink own lk y ∈ lw_gd) (hlv : lv + 1 ≤ (kR K).frames) : CallB (kR K) (ks K) (ka K) own lk y bytes maxL ret (Cond.code y bytes maxL ret :: lw_gd) (rm lv mc ms) mc ms na := by
  have h := C.2.2.2.2.2.2.2.2.2
  have hm := mf.2.2.2.2
  exact callB_of na C.2.2.2.2.1 (gd_cons mf.1) rfl rfl rfl (C.2.2.2.2.1 _ mf.2.1) (C.2.2.2.2.1 _ hl) mf.2.2.1 ⟨hlv, by show 8 + (maxL + 11) + 40 * lv ≤ _; omega⟩
theorem callN_gd (C : Ctx K own cc) {y : MethodName} {bytes : ByteArray} {maxL na lv mc ms lk : Nat} {host : String} {ret : Option FieldType} (mf : MF y bytes maxL ret na) (hl : (own, lk, y, host) ∈ nstM) (hlv : lv + 1 ≤ (kR K).frames) : va_CN (kR K) (ks K) (ka K) own lk y host bytes maxL ret (Cond.code y bytes maxL ret :: lw_gd) (rm lv mc ms) mc ms na := by
  have h := C.2.2.2.2.2.2.2.2.2
  have hm := mf.2.2.2.2
  exact va_cnB na C.2.2.2.2.1 (gd_cons mf.1) rfl rfl rfl (C.2.2.2.2.2.1.2.1.1 _ hl) (C.2.2.2.2.1 _ mf.2.1) mf.2.2.1 ⟨hlv, by show 8 + (maxL + 11) + 40 * lv ≤ _; omega⟩
theorem fix_of (C : Ctx K own cc) : CallFix (kp K) (km K) (kc K) cc (kL K) (ks K) (ka K) lw_gd own := ⟨C.1, C.2.1, C.2.2.1, C.2.2.2.1, C.2.2.2.2.1⟩
/-- invokevirtual of a method of ours -/
theorem aw_cV (C : Ctx K own cc) (hR : Rm K n) {k ci N lk na maxL lv mc ms : Nat} {y : MethodName} {bytes : ByteArray} {ret : Option FieldType} {Cn : String} {TT : u_T} {as rest : List Value} {T : Tg} (d : decode cc pc = .ok (.invokevirtual lk, 3)) (hM : CM (kl K) (kw K) y bytes maxL ret lv mc ms (.ref k :: as) n M P T) (mf : MF y bytes maxL ret na) (ob : OB n k ci N) (hc : vwCl[ci]? = some (Cn, TT, N)) (hy : y.cls = Cn) (hw : Cond.methodLink own lk y ∈ lw_gd ∧ Cond.instanceMethod y ∈ lw_gd ∧ Cond.selects y.cls y y ∈ lw_gd) (hna : as.length = na) (hlv : lv + 1 ≤ (kR K).frames) (hs : st = as.reverse ++ .ref k :: rest) (hst : (rest.map fun v => v.category).sum ≤ 8) (hroom : n - kn K + mc ≤ (kR K).cells ∧ sln n - sln (kn K) + ms ≤ (kR K).slots)
    (hT : ∀ rv n1 M1 P1, T rv n1 M1 P1 → n1 = n + mc ∧ sln n1 = sln n + ms) (kk : ∀ rv n1 M1 P1, T rv n1 M1 P1 → AW K n1 M1 P1 (pc + 3) loc (rv.toList ++ rest)) : AW K n M P pc loc st := by
  intro ls H locs hl hP hS T0 hT0 X
  have hz := aw_size C hR.1 hP hS hT0 X
  have h9 := cl_lt hc
  have he := wsO_at (w := kw K) (M := M) (P := P) ob.1
  rw [ent_ob ob.2.2 h9] at he
  subst hy
  refine aw_after hR.1 hT0 X (va_runV (As := as.map (cv (kw K))) (rest := rest.map (cv (kw K))) (b := wSz (kw K) + k) (C := y.cls) (fix_of C) hM ⟨callB_gd C mf hw.1 hlv, C.2.2.2.2.1 _ hw.2.1, C.2.2.2.2.1 _ hw.2.2⟩ ⟨pc_blind, va_recv C.2.2.2.2.2.1.1 hP hc he, fun U hU hW => ⟨?_, C.2.2.2.2.2.1.move hS hU hW, by rw [hU]; exact hz, by rw [hU]; exact hP⟩⟩ rfl (by rw [List.length_map]; exact hna) hl.1 ?_ (lv_room (by rw [cat_map]; exact hst)) d hroom) hS hl hT kk
  · rw [List.map_cons, cvr ob.2.1]
  · show st.map (cv (kw K)) = _
    rw [hs, List.map_append, List.map_cons, List.map_reverse, cvr ob.2.1]
/-- invokestatic of a method of the same class -/
theorem aw_cS (C : Ctx K own cc) (hR : Rm K n) {lk na maxL lv mc ms : Nat} {y : MethodName} {bytes : ByteArray} {ret : Option FieldType} {as rest : List Value} {T : Tg} (d : decode cc pc = .ok (.invokestatic lk, 3)) (hM : CM (kl K) (kw K) y bytes maxL ret lv mc ms as n M P T) (mf : MF y bytes maxL ret na) (hw : Cond.methodLink own lk y ∈ lw_gd ∧ Cond.static y ∈ lw_gd) (hna : as.length = na) (hlv : lv + 1 ≤ (kR K).frames) (hs : st = as.reverse ++ rest) (hst : (rest.map fun v => v.category).sum ≤ 8) (hroom : n - kn K + mc ≤ (kR K).cells ∧ sln n - sln (kn K) + ms ≤ (kR K).slots)
    (hT : ∀ rv n1 M1 P1, T rv n1 M1 P1 → n1 = n + mc ∧ sln n1 = sln n + ms) (kk : ∀ rv n1 M1 P1, T rv n1 M1 P1 → AW K n1 M1 P1 (pc + 3) loc (rv.toList ++ rest)) : AW K n M P pc loc st := by
  intro ls H locs hl hP hS T0 hT0 X
  have hz := aw_size C hR.1 hP hS hT0 X
  refine aw_after hR.1 hT0 X (va_runS (As := as.map (cv (kw K))) (rest := rest.map (cv (kw K))) (fix_of C) hM ⟨callB_gd C mf hw.1 hlv, C.2.2.2.2.1 _ hw.2⟩ ⟨pc_blind, fun U hU hW => ⟨rfl, C.2.2.2.2.2.1.move hS hU hW, by rw [hU]; exact hz, by rw [hU]; exact hP⟩⟩ rfl (by rw [List.length_map]; exact hna) hl.1 ?_ (lv_room (by rw [cat_map]; exact hst)) d hroom) hS hl hT kk
  show st.map (cv (kw K)) = _
  rw [hs, List.map_append, List.map_reverse]
/-- invokestatic of a nest mate's private method -/
theorem aw_cSN (C : Ctx K own cc) (hR : Rm K n) {lk na maxL lv mc ms : Nat} {y : MethodName} {host : String} {bytes : ByteArray} {ret : Option FieldType} {as rest : List Value} {T : Tg} (d : decode cc pc = .ok (.invokestatic lk, 3)) (hM : CM (kl K) (kw K) y bytes maxL ret lv mc ms as n M P T) (mf : MF y bytes maxL ret na) (hw : (own, lk, y, host) ∈ nstM ∧ Cond.static y ∈ lw_gd) (hna : as.length = na) (hlv : lv + 1 ≤ (kR K).frames) (hs : st = as.reverse ++ rest) (hst : (rest.map fun v => v.category).sum ≤ 8) (hroom : n - kn K + mc ≤ (kR K).cells ∧ sln n - sln (kn K) + ms ≤ (kR K).slots)
    (hT : ∀ rv n1 M1 P1, T rv n1 M1 P1 → n1 = n + mc ∧ sln n1 = sln n + ms) (kk : ∀ rv n1 M1 P1, T rv n1 M1 P1 → AW K n1 M1 P1 (pc + 3) loc (rv.toList ++ rest)) : AW K n M P pc loc st := by
  intro ls H locs hl hP hS T0 hT0 X
  have hz := aw_size C hR.1 hP hS hT0 X
  refine aw_after hR.1 hT0 X (va_runSN (As := as.map (cv (kw K))) (rest := rest.map (cv (kw K))) (fix_of C) hM ⟨callN_gd C mf hw.1 hlv, C.2.2.2.2.1 _ hw.2, trivial⟩ ⟨pc_blind, fun U hU hW => ⟨rfl, C.2.2.2.2.2.1.move hS hU hW, by rw [hU]; exact hz, by rw [hU]; exact hP⟩⟩ rfl (by rw [List.length_map]; exact hna) hl.1 ?_ (lv_room (by rw [cat_map]; exact hst)) d hroom) hS hl hT kk
  show st.map (cv (kw K)) = _
  rw [hs, List.map_append, List.map_reverse]
/-- invokespecial of a constructor -/
theorem aw_cI (C : Ctx K own cc) (hR : Rm K n) {k lk na maxL lv mc ms : Nat} {y : MethodName} {bytes : ByteArray} {as rest : List Value} {T : Tg} (d : decode cc pc = .ok (.invokespecial lk, 3)) (hM : CM (kl K) (kw K) y bytes maxL none lv mc ms (.ref k :: as) n M P T) (mf : MF y bytes maxL none na) (hk : k < 1000) (hw : Cond.methodLink own lk y ∈ lw_gd ∧ Cond.instanceMethod y ∈ lw_gd) (hy1 : y.name = "<init>") (hna : as.length = na) (hlv : lv + 1 ≤ (kR K).frames) (hs : st = as.reverse ++ .ref k :: rest) (hst : (rest.map fun v => v.category).sum ≤ 8) (hroom : n - kn K + mc ≤ (kR K).cells ∧ sln n - sln (kn K) + ms ≤ (kR K).slots)
    (hT : ∀ rv n1 M1 P1, T rv n1 M1 P1 → n1 = n + mc ∧ sln n1 = sln n + ms) (kk : ∀ rv n1 M1 P1, T rv n1 M1 P1 → AW K n1 M1 P1 (pc + 3) loc (rv.toList ++ rest)) : AW K n M P pc loc st := by
  intro ls H locs hl hP hS T0 hT0 X
  have hz := aw_size C hR.1 hP hS hT0 X
  refine aw_after hR.1 hT0 X (va_runI (As := as.map (cv (kw K))) (rest := rest.map (cv (kw K))) (b := wSz (kw K) + k) (fix_of C) hM ⟨callB_gd C mf hw.1 hlv, hy1, C.2.2.2.2.1 _ hw.2⟩ ⟨pc_blind, fun U hU hW => ⟨?_, C.2.2.2.2.2.1.move hS hU hW, by rw [hU]; exact hz, by rw [hU]; exact hP⟩⟩ rfl (by rw [List.length_map]; exact hna) hl.1 ?_ (lv_room (by rw [cat_map]; exact hst)) d hroom) hS hl hT kk
  · rw [List.map_cons, cvr hk]
  · show st.map (cv (kw K)) = _
    rw [hs, List.map_append, List.map_cons, List.map_reverse, cvr hk]
theorem aw_cIN (C : Ctx K own cc) (hR : Rm K n) {k lk na maxL lv mc ms : Nat} {y : MethodName} {host : String} {bytes : ByteArray} {as rest : List Value} {T : Tg} (d : decode cc pc = .ok (.invokespecial lk, 3)) (hM : CM (kl K) (kw K) y bytes maxL none lv mc ms (.ref k :: as) n M P T) (mf : MF y bytes maxL none na) (hk : k < 1000) (hw : (own, lk, y, host) ∈ nstM ∧ Cond.instanceMethod y ∈ lw_gd) (hy1 : y.name = "<init>") (hna : as.length = na) (hlv : lv + 1 ≤ (kR K).frames) (hs : st = as.reverse ++ .ref k :: rest) (hst : (rest.map fun v => v.category).sum ≤ 8) (hroom : n - kn K + mc ≤ (kR K).cells ∧ sln n - sln (kn K) + ms ≤ (kR K).slots)
    (hT : ∀ rv n1 M1 P1, T rv n1 M1 P1 → n1 = n + mc ∧ sln n1 = sln n + ms) (kk : ∀ rv n1 M1 P1, T rv n1 M1 P1 → AW K n1 M1 P1 (pc + 3) loc (rv.toList ++ rest)) : AW K n M P pc loc st := by
  intro ls H locs hl hP hS T0 hT0 X
  have hz := aw_size C hR.1 hP hS hT0 X
  refine aw_after hR.1 hT0 X (va_runIN (As := as.map (cv (kw K))) (rest := rest.map (cv (kw K))) (b := wSz (kw K) + k) (fix_of C) hM ⟨callN_gd C mf hw.1 hlv, hy1, C.2.2.2.2.1 _ hw.2⟩ ⟨pc_blind, fun U hU hW => ⟨?_, C.2.2.2.2.2.1.move hS hU hW, by rw [hU]; exact hz, by rw [hU]; exact hP⟩⟩ rfl (by rw [List.length_map]; exact hna) hl.1 ?_ (lv_room (by rw [cat_map]; exact hst)) d hroom) hS hl hT kk
  · rw [List.map_cons, cvr hk]
  · show st.map (cv (kw K)) = _
    rw [hs, List.map_append, List.map_cons, List.map_reverse, cvr hk]
theorem aw_objInit (C : Ctx K own cc) {k lk : Nat} (hw : Cond.methodLink own lk Lib.objectInit ∈ lw_gd ∧ Cond.instanceMethod Lib.objectInit ∈ lw_gd ∧ Cond.code Lib.objectInit ⟨#[0xb1]⟩ 1 none ∈ lw_gd) (hst : (st.map fun v => v.category).sum ≤ 8) (d : decode cc pc = .ok (.invokespecial lk, 3)) (kk : AW K n M P (pc + 3) loc st) : AW K n M P pc loc (.ref k :: st) := by
  intro ls H locs hl hP hS
  have hR := C.2.2.2.2.2.2.2.2
  exact W.objInit C.1 C.2.1 C.2.2.2.1 (C.2.2.2.2.1 _ hw.1) (C.2.2.2.2.1 _ hw.2.1) (C.2.2.2.2.1 _ hw.2.2) rfl (hl.1.trans C.2.2.1.symm) (a := wad (kw K) k) (rest := st.map (cv (kw K))) rfl d hR.1 (by rw [cat_map]; show 2 * 0 + _ + 12 ≤ _; omega) (kk ls H locs hl hP hS)
/-- returns -/
theorem aw_iret (C : Ctx K own cc) {ty : FieldType} {T : Tg} {mc ms : Nat} {x : Int32} (rt : RT K (some ty) T mc ms) (hnar : narrow ty (.int x) = .int x) (hm : n - kn K ≤ mc ∧ sln n - sln (kn K) ≤ ms) (d : decode cc pc = .ok (.ireturn, 1)) (hT : T (some (.int x)) n M P) : AW K n M P pc loc [.int x] := by
  intro ls H locs hl hP hS
  rw [rt.1]
  exact W.widen hm.1 hm.2 (W.zret (Qc := Qm (kw K) T) C.1 C.2.1 rt.2 hnar (fun t ht _ => ⟨some (.int x), n, M, P, rfl, hT, by rw [ht]; exact hP, hS.F ht⟩) hS.2.2 d C.2.2.2.2.2.2.2.1)
theorem aw_lret (C : Ctx K own cc) {T : Tg} {mc ms : Nat} {x : Int64} (rt : RT K (some .long) T mc ms) (hm : n - kn K ≤ mc ∧ sln n - sln (kn K) ≤ ms) (d : decode cc pc = .ok (.lreturn, 1)) (hT : T (some (.long x)) n M P) : AW K n M P pc loc [.long x] := by
  intro ls H locs hl hP hS
  rw [rt.1]
  exact W.widen hm.1 hm.2 (W.lret (Qc := Qm (kw K) T) C.1 C.2.1 rt.2 (fun t ht _ => ⟨some (.long x), n, M, P, rfl, hT, by rw [ht]; exact hP, hS.F ht⟩) hS.2.2 d C.2.2.2.2.2.2.2.1)
theorem aw_vret (C : Ctx K own cc) {T : Tg} {mc ms : Nat} (rt : RT K none T mc ms) (hm : n - kn K ≤ mc ∧ sln n - sln (kn K) ≤ ms) (d : decode cc pc = .ok (.return_, 1)) (hT : T none n M P) : AW K n M P pc loc [] := by
  intro ls H locs hl hP hS
  rw [rt.1]
  exact W.widen hm.1 hm.2 (W.vret (Qc := Qm (kw K) T) C.1 C.2.1 rt.2 (fun t ht _ => ⟨none, n, M, P, rfl, hT, by rw [ht]; exact hP, hS.F ht⟩) hS.2.2 d C.2.2.2.2.2.2.2.1)
end R5
end
section
/-! 06: the steady world: every cell is made; only one reference moves (the house of the day) -/
def p0t : List (List (Option Nat)) := [[some 1, some 14, some 27, none, some 40, some 44, none, some 45, some 57, some 58], [none, none, none, none, some 2, some 3, some 4, some 5], [], [], [], [some 6, some 8, some 10, some 12], [none, none, none, none, some 7], [], [none, none, none, none, some 9], [], [none, none, none, none, some 11], [], [none, none, none, none, some 13], [], [none, none, none, none, some 15, some 16, some 17, some 18], [], [], [], [some 19, some 21, some 23, some 25], [none, none, none, none, some 20], [], [none, none, none, none, some 22], [], [none, none, none, none, some 24], [], [none, none, none, none, some 26], [], [none, none, none, none, some 28, some 29, some 30, some 31], [], [], [], [some 32, some 34, some 36, some 38], [none, none, none, none, some 33], [], [none, none, none, none, some 35], [], [none, none, none, none, some 37], [], [none, none, none, none, some 39], [], [some 41, none, none, none, none, none, none, some 42, some 43], [], [], [], [some 59, some 62, some 65, some 68, some 71, some 74], [none, some 44, some 46, some 48, some 49, some 50, some 51, some 52, some 53, some 54, some 55, some 56], [some 47], [], [], [], [], [], [], [], [], [], [], [some 77, some 79, some 81, some 83], [], [some 60, some 61], [], [], [some 63, some 64], [], [], [some 66, some 67], [], [], [some 69, some 70], [], [], [some 72, some 73], [], [], [some 75, some 76], [], [], [none, none, some 78], [], [none, none, some 80], [], [none, none, some 82], [], [none, none, some 84], [], [none, some 86, some 87, none, none, some 88, none, none, some 89, some 90, some 91, none, some 92, some 93, some 94, some 95, some 96, none, none, some 97, none, none, none, none, none, none, none, none, none, none, none, none, none, none, none, none, some 98, some 99, some 100, some 101, some 102, some 103, some 104, none, none, some 105, none, none, some 106, some 107, some 108, none, none, none, none, some 109, some 110, some 111, some 112], [], [], [], [], [], [], [], [], [], [], [], [], [], [], [], [], [], [], [], [], [], [], [], [], [], [], []]
def P0 (k j : Nat) : Option Nat := (p0t.getD k []).getD j none
/-- the references, the day's house read off the memory -/
def PD (M : Mem) : Pm := fun k j => if k = 45 ∧ j = 0 then some (ix (M 45 0)) else P0 k j
theorem PD_wr {M : Mem} {k j : Nat} {x : Int32} (h : k ≠ 45 ∨ j ≠ 0) : PD (wr M k j x) = PD M := by
  funext a b
  unfold PD
  have e : wr M k j x 45 0 = M 45 0 := by
    unfold wr
    rw [if_neg]
    rintro ⟨h1, h2⟩
    rcases h with h | h
    · exact h h1.symm
    · exact h h2.symm
  rw [e]
theorem PD_wrR {M : Mem} {k : Nat} {f : Nat → Int32} (h : k ≠ 45) : PD (wrR M k f) = PD M := by
  funext a b
  unfold PD wrR
  rw [if_neg (show ¬ 45 = k from fun z => h z.symm)]
abbrev AS (K : Cx) (n : Nat) (M : Mem) (pc : Nat) (loc : List (Option Value)) (st : List Value) : Prop := AW K n M (PD M) pc loc st
theorem ob_0 {n : Nat} (h : 85 ≤ n) : OB n 0 7 10 := ⟨Nat.lt_of_lt_of_le (by decide) h, by decide, rfl⟩
theorem ob_1 {n : Nat} (h : 85 ≤ n) : OB n 1 1 8 := ⟨Nat.lt_of_lt_of_le (by decide) h, by decide, rfl⟩
theorem ob_2 {n : Nat} (h : 85 ≤ n) : OB n 2 20 8 := ⟨Nat.lt_of_lt_of_le (by decide) h, by decide, rfl⟩
theorem ob_3 {n : Nat} (h : 85 ≤ n) : OB n 3 20 8 := ⟨Nat.lt_of_lt_of_le (by decide) h, by decide, rfl⟩
theorem ob_4 {n : Nat} (h : 85 ≤ n) : OB n 4 20 8 := ⟨Nat.lt_of_lt_of_le (by decide) h, by decide, rfl⟩
theorem ob_5 {n : Nat} (h : 85 ≤ n) : OB n 5 22 4 := ⟨Nat.lt_of_lt_of_le (by decide) h, by decide, rfl⟩
theorem ob_6 {n : Nat} (h : 85 ≤ n) : OB n 6 2 5 := ⟨Nat.lt_of_lt_of_le (by decide) h, by decide, rfl⟩
theorem ob_7 {n : Nat} (h : 85 ≤ n) : OB n 7 20 5 := ⟨Nat.lt_of_lt_of_le (by decide) h, by decide, rfl⟩
theorem ob_8 {n : Nat} (h : 85 ≤ n) : OB n 8 2 5 := ⟨Nat.lt_of_lt_of_le (by decide) h, by decide, rfl⟩
theorem ob_9 {n : Nat} (h : 85 ≤ n) : OB n 9 20 5 := ⟨Nat.lt_of_lt_of_le (by decide) h, by decide, rfl⟩
theorem ob_10 {n : Nat} (h : 85 ≤ n) : OB n 10 2 5 := ⟨Nat.lt_of_lt_of_le (by decide) h, by decide, rfl⟩
theorem ob_11 {n : Nat} (h : 85 ≤ n) : OB n 11 20 5 := ⟨Nat.lt_of_lt_of_le (by decide) h, by decide, rfl⟩
theorem ob_12 {n : Nat} (h : 85 ≤ n) : OB n 12 2 5 := ⟨Nat.lt_of_lt_of_le (by decide) h, by decide, rfl⟩
theorem ob_13 {n : Nat} (h : 85 ≤ n) : OB n 13 20 5 := ⟨Nat.lt_of_lt_of_le (by decide) h, by decide, rfl⟩
theorem ob_14 {n : Nat} (h : 85 ≤ n) : OB n 14 1 8 := ⟨Nat.lt_of_lt_of_le (by decide) h, by decide, rfl⟩
theorem ob_15 {n : Nat} (h : 85 ≤ n) : OB n 15 20 8 := ⟨Nat.lt_of_lt_of_le (by decide) h, by decide, rfl⟩
theorem ob_16 {n : Nat} (h : 85 ≤ n) : OB n 16 20 8 := ⟨Nat.lt_of_lt_of_le (by decide) h, by decide, rfl⟩
theorem ob_17 {n : Nat} (h : 85 ≤ n) : OB n 17 20 8 := ⟨Nat.lt_of_lt_of_le (by decide) h, by decide, rfl⟩
theorem ob_18 {n : Nat} (h : 85 ≤ n) : OB n 18 22 4 := ⟨Nat.lt_of_lt_of_le (by decide) h, by decide, rfl⟩
theorem ob_19 {n : Nat} (h : 85 ≤ n) : OB n 19 2 5 := ⟨Nat.lt_of_lt_of_le (by decide) h, by decide, rfl⟩
theorem ob_20 {n : Nat} (h : 85 ≤ n) : OB n 20 20 5 := ⟨Nat.lt_of_lt_of_le (by decide) h, by decide, rfl⟩
theorem ob_21 {n : Nat} (h : 85 ≤ n) : OB n 21 2 5 := ⟨Nat.lt_of_lt_of_le (by decide) h, by decide, rfl⟩
theorem ob_22 {n : Nat} (h : 85 ≤ n) : OB n 22 20 5 := ⟨Nat.lt_of_lt_of_le (by decide) h, by decide, rfl⟩
theorem ob_23 {n : Nat} (h : 85 ≤ n) : OB n 23 2 5 := ⟨Nat.lt_of_lt_of_le (by decide) h, by decide, rfl⟩
theorem ob_24 {n : Nat} (h : 85 ≤ n) : OB n 24 20 5 := ⟨Nat.lt_of_lt_of_le (by decide) h, by decide, rfl⟩
theorem ob_25 {n : Nat} (h : 85 ≤ n) : OB n 25 2 5 := ⟨Nat.lt_of_lt_of_le (by decide) h, by decide, rfl⟩
theorem ob_26 {n : Nat} (h : 85 ≤ n) : OB n 26 20 5 := ⟨Nat.lt_of_lt_of_le (by decide) h, by decide, rfl⟩
theorem ob_27 {n : Nat} (h : 85 ≤ n) : OB n 27 1 8 := ⟨Nat.lt_of_lt_of_le (by decide) h, by decide, rfl⟩
theorem ob_28 {n : Nat} (h : 85 ≤ n) : OB n 28 20 8 := ⟨Nat.lt_of_lt_of_le (by decide) h, by decide, rfl⟩
theorem ob_29 {n : Nat} (h : 85 ≤ n) : OB n 29 20 8 := ⟨Nat.lt_of_lt_of_le (by decide) h, by decide, rfl⟩
theorem ob_30 {n : Nat} (h : 85 ≤ n) : OB n 30 20 8 := ⟨Nat.lt_of_lt_of_le (by decide) h, by decide, rfl⟩
theorem ob_31 {n : Nat} (h : 85 ≤ n) : OB n 31 22 4 := ⟨Nat.lt_of_lt_of_le (by decide) h, by decide, rfl⟩
theorem ob_32 {n : Nat} (h : 85 ≤ n) : OB n 32 2 5 := ⟨Nat.lt_of_lt_of_le (by decide) h, by decide, rfl⟩
theorem ob_33 {n : Nat} (h : 85 ≤ n) : OB n 33 20 5 := ⟨Nat.lt_of_lt_of_le (by decide) h, by decide, rfl⟩
theorem ob_34 {n : Nat} (h : 85 ≤ n) : OB n 34 2 5 := ⟨Nat.lt_of_lt_of_le (by decide) h, by decide, rfl⟩
theorem ob_35 {n : Nat} (h : 85 ≤ n) : OB n 35 20 5 := ⟨Nat.lt_of_lt_of_le (by decide) h, by decide, rfl⟩
theorem ob_36 {n : Nat} (h : 85 ≤ n) : OB n 36 2 5 := ⟨Nat.lt_of_lt_of_le (by decide) h, by decide, rfl⟩
theorem ob_37 {n : Nat} (h : 85 ≤ n) : OB n 37 20 5 := ⟨Nat.lt_of_lt_of_le (by decide) h, by decide, rfl⟩
theorem ob_38 {n : Nat} (h : 85 ≤ n) : OB n 38 2 5 := ⟨Nat.lt_of_lt_of_le (by decide) h, by decide, rfl⟩
theorem ob_39 {n : Nat} (h : 85 ≤ n) : OB n 39 20 5 := ⟨Nat.lt_of_lt_of_le (by decide) h, by decide, rfl⟩
theorem ob_40 {n : Nat} (h : 85 ≤ n) : OB n 40 3 10 := ⟨Nat.lt_of_lt_of_le (by decide) h, by decide, rfl⟩
theorem ob_41 {n : Nat} (h : 85 ≤ n) : OB n 41 20 160 := ⟨Nat.lt_of_lt_of_le (by decide) h, by decide, rfl⟩
theorem ob_42 {n : Nat} (h : 85 ≤ n) : OB n 42 20 160 := ⟨Nat.lt_of_lt_of_le (by decide) h, by decide, rfl⟩
theorem ob_43 {n : Nat} (h : 85 ≤ n) : OB n 43 20 3 := ⟨Nat.lt_of_lt_of_le (by decide) h, by decide, rfl⟩
theorem ob_44 {n : Nat} (h : 85 ≤ n) : OB n 44 24 6 := ⟨Nat.lt_of_lt_of_le (by decide) h, by decide, rfl⟩
theorem ob_45 {n : Nat} (h : 85 ≤ n) : OB n 45 0 15 := ⟨Nat.lt_of_lt_of_le (by decide) h, by decide, rfl⟩
theorem ob_46 {n : Nat} (h : 85 ≤ n) : OB n 46 5 2 := ⟨Nat.lt_of_lt_of_le (by decide) h, by decide, rfl⟩
theorem ob_47 {n : Nat} (h : 85 ≤ n) : OB n 47 20 64 := ⟨Nat.lt_of_lt_of_le (by decide) h, by decide, rfl⟩
theorem ob_48 {n : Nat} (h : 85 ≤ n) : OB n 48 20 6 := ⟨Nat.lt_of_lt_of_le (by decide) h, by decide, rfl⟩
theorem ob_49 {n : Nat} (h : 85 ≤ n) : OB n 49 20 160 := ⟨Nat.lt_of_lt_of_le (by decide) h, by decide, rfl⟩
theorem ob_50 {n : Nat} (h : 85 ≤ n) : OB n 50 20 4 := ⟨Nat.lt_of_lt_of_le (by decide) h, by decide, rfl⟩
theorem ob_51 {n : Nat} (h : 85 ≤ n) : OB n 51 20 4 := ⟨Nat.lt_of_lt_of_le (by decide) h, by decide, rfl⟩
theorem ob_52 {n : Nat} (h : 85 ≤ n) : OB n 52 20 4 := ⟨Nat.lt_of_lt_of_le (by decide) h, by decide, rfl⟩
theorem ob_53 {n : Nat} (h : 85 ≤ n) : OB n 53 20 4 := ⟨Nat.lt_of_lt_of_le (by decide) h, by decide, rfl⟩
theorem ob_54 {n : Nat} (h : 85 ≤ n) : OB n 54 20 4 := ⟨Nat.lt_of_lt_of_le (by decide) h, by decide, rfl⟩
theorem ob_55 {n : Nat} (h : 85 ≤ n) : OB n 55 20 4 := ⟨Nat.lt_of_lt_of_le (by decide) h, by decide, rfl⟩
theorem ob_56 {n : Nat} (h : 85 ≤ n) : OB n 56 20 8 := ⟨Nat.lt_of_lt_of_le (by decide) h, by decide, rfl⟩
theorem ob_57 {n : Nat} (h : 85 ≤ n) : OB n 57 23 4 := ⟨Nat.lt_of_lt_of_le (by decide) h, by decide, rfl⟩
theorem ob_58 {n : Nat} (h : 85 ≤ n) : OB n 58 20 5 := ⟨Nat.lt_of_lt_of_le (by decide) h, by decide, rfl⟩
theorem ob_59 {n : Nat} (h : 85 ≤ n) : OB n 59 6 2 := ⟨Nat.lt_of_lt_of_le (by decide) h, by decide, rfl⟩
theorem ob_60 {n : Nat} (h : 85 ≤ n) : OB n 60 20 160 := ⟨Nat.lt_of_lt_of_le (by decide) h, by decide, rfl⟩
theorem ob_61 {n : Nat} (h : 85 ≤ n) : OB n 61 20 3 := ⟨Nat.lt_of_lt_of_le (by decide) h, by decide, rfl⟩
theorem ob_62 {n : Nat} (h : 85 ≤ n) : OB n 62 6 2 := ⟨Nat.lt_of_lt_of_le (by decide) h, by decide, rfl⟩
theorem ob_63 {n : Nat} (h : 85 ≤ n) : OB n 63 20 160 := ⟨Nat.lt_of_lt_of_le (by decide) h, by decide, rfl⟩
theorem ob_64 {n : Nat} (h : 85 ≤ n) : OB n 64 20 3 := ⟨Nat.lt_of_lt_of_le (by decide) h, by decide, rfl⟩
theorem ob_65 {n : Nat} (h : 85 ≤ n) : OB n 65 6 2 := ⟨Nat.lt_of_lt_of_le (by decide) h, by decide, rfl⟩
theorem ob_66 {n : Nat} (h : 85 ≤ n) : OB n 66 20 160 := ⟨Nat.lt_of_lt_of_le (by decide) h, by decide, rfl⟩
theorem ob_67 {n : Nat} (h : 85 ≤ n) : OB n 67 20 3 := ⟨Nat.lt_of_lt_of_le (by decide) h, by decide, rfl⟩
theorem ob_68 {n : Nat} (h : 85 ≤ n) : OB n 68 6 2 := ⟨Nat.lt_of_lt_of_le (by decide) h, by decide, rfl⟩
theorem ob_69 {n : Nat} (h : 85 ≤ n) : OB n 69 20 160 := ⟨Nat.lt_of_lt_of_le (by decide) h, by decide, rfl⟩
theorem ob_70 {n : Nat} (h : 85 ≤ n) : OB n 70 20 3 := ⟨Nat.lt_of_lt_of_le (by decide) h, by decide, rfl⟩
theorem ob_71 {n : Nat} (h : 85 ≤ n) : OB n 71 6 2 := ⟨Nat.lt_of_lt_of_le (by decide) h, by decide, rfl⟩
theorem ob_72 {n : Nat} (h : 85 ≤ n) : OB n 72 20 160 := ⟨Nat.lt_of_lt_of_le (by decide) h, by decide, rfl⟩
theorem ob_73 {n : Nat} (h : 85 ≤ n) : OB n 73 20 3 := ⟨Nat.lt_of_lt_of_le (by decide) h, by decide, rfl⟩
theorem ob_74 {n : Nat} (h : 85 ≤ n) : OB n 74 6 2 := ⟨Nat.lt_of_lt_of_le (by decide) h, by decide, rfl⟩
theorem ob_75 {n : Nat} (h : 85 ≤ n) : OB n 75 20 160 := ⟨Nat.lt_of_lt_of_le (by decide) h, by decide, rfl⟩
theorem ob_76 {n : Nat} (h : 85 ≤ n) : OB n 76 20 3 := ⟨Nat.lt_of_lt_of_le (by decide) h, by decide, rfl⟩
theorem ob_77 {n : Nat} (h : 85 ≤ n) : OB n 77 4 3 := ⟨Nat.lt_of_lt_of_le (by decide) h, by decide, rfl⟩
theorem ob_78 {n : Nat} (h : 85 ≤ n) : OB n 78 20 40 := ⟨Nat.lt_of_lt_of_le (by decide) h, by decide, rfl⟩
theorem ob_79 {n : Nat} (h : 85 ≤ n) : OB n 79 4 3 := ⟨Nat.lt_of_lt_of_le (by decide) h, by decide, rfl⟩
theorem ob_80 {n : Nat} (h : 85 ≤ n) : OB n 80 20 40 := ⟨Nat.lt_of_lt_of_le (by decide) h, by decide, rfl⟩
theorem ob_81 {n : Nat} (h : 85 ≤ n) : OB n 81 4 3 := ⟨Nat.lt_of_lt_of_le (by decide) h, by decide, rfl⟩
theorem ob_82 {n : Nat} (h : 85 ≤ n) : OB n 82 20 40 := ⟨Nat.lt_of_lt_of_le (by decide) h, by decide, rfl⟩
theorem ob_83 {n : Nat} (h : 85 ≤ n) : OB n 83 4 3 := ⟨Nat.lt_of_lt_of_le (by decide) h, by decide, rfl⟩
theorem ob_84 {n : Nat} (h : 85 ≤ n) : OB n 84 20 40 := ⟨Nat.lt_of_lt_of_le (by decide) h, by decide, rfl⟩
theorem ob_85 {n : Nat} (h : 113 ≤ n) : OB n 85 8 59 := ⟨Nat.lt_of_lt_of_le (by decide) h, by decide, rfl⟩
theorem ob_86 {n : Nat} (h : 113 ≤ n) : OB n 86 20 960 := ⟨Nat.lt_of_lt_of_le (by decide) h, by decide, rfl⟩
theorem ob_87 {n : Nat} (h : 113 ≤ n) : OB n 87 20 6 := ⟨Nat.lt_of_lt_of_le (by decide) h, by decide, rfl⟩
theorem ob_88 {n : Nat} (h : 113 ≤ n) : OB n 88 20 160 := ⟨Nat.lt_of_lt_of_le (by decide) h, by decide, rfl⟩
theorem ob_89 {n : Nat} (h : 113 ≤ n) : OB n 89 20 8 := ⟨Nat.lt_of_lt_of_le (by decide) h, by decide, rfl⟩
theorem ob_90 {n : Nat} (h : 113 ≤ n) : OB n 90 20 8 := ⟨Nat.lt_of_lt_of_le (by decide) h, by decide, rfl⟩
theorem ob_91 {n : Nat} (h : 113 ≤ n) : OB n 91 20 8 := ⟨Nat.lt_of_lt_of_le (by decide) h, by decide, rfl⟩
theorem ob_92 {n : Nat} (h : 113 ≤ n) : OB n 92 20 4 := ⟨Nat.lt_of_lt_of_le (by decide) h, by decide, rfl⟩
theorem ob_93 {n : Nat} (h : 113 ≤ n) : OB n 93 20 4 := ⟨Nat.lt_of_lt_of_le (by decide) h, by decide, rfl⟩
theorem ob_94 {n : Nat} (h : 113 ≤ n) : OB n 94 20 4 := ⟨Nat.lt_of_lt_of_le (by decide) h, by decide, rfl⟩
theorem ob_95 {n : Nat} (h : 113 ≤ n) : OB n 95 20 20 := ⟨Nat.lt_of_lt_of_le (by decide) h, by decide, rfl⟩
theorem ob_96 {n : Nat} (h : 113 ≤ n) : OB n 96 20 4 := ⟨Nat.lt_of_lt_of_le (by decide) h, by decide, rfl⟩
theorem ob_97 {n : Nat} (h : 113 ≤ n) : OB n 97 20 64 := ⟨Nat.lt_of_lt_of_le (by decide) h, by decide, rfl⟩
theorem ob_98 {n : Nat} (h : 113 ≤ n) : OB n 98 20 4 := ⟨Nat.lt_of_lt_of_le (by decide) h, by decide, rfl⟩
theorem ob_99 {n : Nat} (h : 113 ≤ n) : OB n 99 20 4 := ⟨Nat.lt_of_lt_of_le (by decide) h, by decide, rfl⟩
theorem ob_100 {n : Nat} (h : 113 ≤ n) : OB n 100 20 4 := ⟨Nat.lt_of_lt_of_le (by decide) h, by decide, rfl⟩
theorem ob_101 {n : Nat} (h : 113 ≤ n) : OB n 101 20 4 := ⟨Nat.lt_of_lt_of_le (by decide) h, by decide, rfl⟩
theorem ob_102 {n : Nat} (h : 113 ≤ n) : OB n 102 20 4 := ⟨Nat.lt_of_lt_of_le (by decide) h, by decide, rfl⟩
theorem ob_103 {n : Nat} (h : 113 ≤ n) : OB n 103 20 4 := ⟨Nat.lt_of_lt_of_le (by decide) h, by decide, rfl⟩
theorem ob_104 {n : Nat} (h : 113 ≤ n) : OB n 104 20 8 := ⟨Nat.lt_of_lt_of_le (by decide) h, by decide, rfl⟩
theorem ob_105 {n : Nat} (h : 113 ≤ n) : OB n 105 20 5 := ⟨Nat.lt_of_lt_of_le (by decide) h, by decide, rfl⟩
theorem ob_106 {n : Nat} (h : 113 ≤ n) : OB n 106 20 8 := ⟨Nat.lt_of_lt_of_le (by decide) h, by decide, rfl⟩
theorem ob_107 {n : Nat} (h : 113 ≤ n) : OB n 107 20 24 := ⟨Nat.lt_of_lt_of_le (by decide) h, by decide, rfl⟩
theorem ob_108 {n : Nat} (h : 113 ≤ n) : OB n 108 20 32 := ⟨Nat.lt_of_lt_of_le (by decide) h, by decide, rfl⟩
theorem ob_109 {n : Nat} (h : 113 ≤ n) : OB n 109 21 4 := ⟨Nat.lt_of_lt_of_le (by decide) h, by decide, rfl⟩
theorem ob_110 {n : Nat} (h : 113 ≤ n) : OB n 110 20 4 := ⟨Nat.lt_of_lt_of_le (by decide) h, by decide, rfl⟩
theorem ob_111 {n : Nat} (h : 113 ≤ n) : OB n 111 20 4 := ⟨Nat.lt_of_lt_of_le (by decide) h, by decide, rfl⟩
theorem ob_112 {n : Nat} (h : 113 ≤ n) : OB n 112 20 160 := ⟨Nat.lt_of_lt_of_le (by decide) h, by decide, rfl⟩
theorem p_0_0 {M : Mem} : PD M 0 0 = some 1 := rfl
theorem p_0_1 {M : Mem} : PD M 0 1 = some 14 := rfl
theorem p_0_2 {M : Mem} : PD M 0 2 = some 27 := rfl
theorem p_0_4 {M : Mem} : PD M 0 4 = some 40 := rfl
theorem p_0_5 {M : Mem} : PD M 0 5 = some 44 := rfl
theorem p_0_7 {M : Mem} : PD M 0 7 = some 45 := rfl
theorem p_0_8 {M : Mem} : PD M 0 8 = some 57 := rfl
theorem p_0_9 {M : Mem} : PD M 0 9 = some 58 := rfl
theorem p_1_4 {M : Mem} : PD M 1 4 = some 2 := rfl
theorem p_1_5 {M : Mem} : PD M 1 5 = some 3 := rfl
theorem p_1_6 {M : Mem} : PD M 1 6 = some 4 := rfl
theorem p_1_7 {M : Mem} : PD M 1 7 = some 5 := rfl
theorem p_6_4 {M : Mem} : PD M 6 4 = some 7 := rfl
theorem p_8_4 {M : Mem} : PD M 8 4 = some 9 := rfl
theorem p_10_4 {M : Mem} : PD M 10 4 = some 11 := rfl
theorem p_12_4 {M : Mem} : PD M 12 4 = some 13 := rfl
theorem p_14_4 {M : Mem} : PD M 14 4 = some 15 := rfl
theorem p_14_5 {M : Mem} : PD M 14 5 = some 16 := rfl
theorem p_14_6 {M : Mem} : PD M 14 6 = some 17 := rfl
theorem p_14_7 {M : Mem} : PD M 14 7 = some 18 := rfl
theorem p_19_4 {M : Mem} : PD M 19 4 = some 20 := rfl
theorem p_21_4 {M : Mem} : PD M 21 4 = some 22 := rfl
theorem p_23_4 {M : Mem} : PD M 23 4 = some 24 := rfl
theorem p_25_4 {M : Mem} : PD M 25 4 = some 26 := rfl
theorem p_27_4 {M : Mem} : PD M 27 4 = some 28 := rfl
theorem p_27_5 {M : Mem} : PD M 27 5 = some 29 := rfl
theorem p_27_6 {M : Mem} : PD M 27 6 = some 30 := rfl
theorem p_27_7 {M : Mem} : PD M 27 7 = some 31 := rfl
theorem p_32_4 {M : Mem} : PD M 32 4 = some 33 := rfl
theorem p_34_4 {M : Mem} : PD M 34 4 = some 35 := rfl
theorem p_36_4 {M : Mem} : PD M 36 4 = some 37 := rfl
theorem p_38_4 {M : Mem} : PD M 38 4 = some 39 := rfl
theorem p_40_0 {M : Mem} : PD M 40 0 = some 41 := rfl
theorem p_40_7 {M : Mem} : PD M 40 7 = some 42 := rfl
theorem p_40_8 {M : Mem} : PD M 40 8 = some 43 := rfl
theorem p_45_1 {M : Mem} : PD M 45 1 = some 44 := rfl
theorem p_45_2 {M : Mem} : PD M 45 2 = some 46 := rfl
theorem p_45_3 {M : Mem} : PD M 45 3 = some 48 := rfl
theorem p_45_4 {M : Mem} : PD M 45 4 = some 49 := rfl
theorem p_45_5 {M : Mem} : PD M 45 5 = some 50 := rfl
theorem p_45_6 {M : Mem} : PD M 45 6 = some 51 := rfl
theorem p_45_7 {M : Mem} : PD M 45 7 = some 52 := rfl
theorem p_45_8 {M : Mem} : PD M 45 8 = some 53 := rfl
theorem p_45_9 {M : Mem} : PD M 45 9 = some 54 := rfl
theorem p_45_10 {M : Mem} : PD M 45 10 = some 55 := rfl
theorem p_45_11 {M : Mem} : PD M 45 11 = some 56 := rfl
theorem p_46_0 {M : Mem} : PD M 46 0 = some 47 := rfl
theorem p_59_0 {M : Mem} : PD M 59 0 = some 60 := rfl
theorem p_59_1 {M : Mem} : PD M 59 1 = some 61 := rfl
theorem p_62_0 {M : Mem} : PD M 62 0 = some 63 := rfl
theorem p_62_1 {M : Mem} : PD M 62 1 = some 64 := rfl
theorem p_65_0 {M : Mem} : PD M 65 0 = some 66 := rfl
theorem p_65_1 {M : Mem} : PD M 65 1 = some 67 := rfl
theorem p_68_0 {M : Mem} : PD M 68 0 = some 69 := rfl
theorem p_68_1 {M : Mem} : PD M 68 1 = some 70 := rfl
theorem p_71_0 {M : Mem} : PD M 71 0 = some 72 := rfl
theorem p_71_1 {M : Mem} : PD M 71 1 = some 73 := rfl
theorem p_74_0 {M : Mem} : PD M 74 0 = some 75 := rfl
theorem p_74_1 {M : Mem} : PD M 74 1 = some 76 := rfl
theorem p_77_2 {M : Mem} : PD M 77 2 = some 78 := rfl
theorem p_79_2 {M : Mem} : PD M 79 2 = some 80 := rfl
theorem p_81_2 {M : Mem} : PD M 81 2 = some 82 := rfl
theorem p_83_2 {M : Mem} : PD M 83 2 = some 84 := rfl
theorem p_85_1 {M : Mem} : PD M 85 1 = some 86 := rfl
theorem p_85_2 {M : Mem} : PD M 85 2 = some 87 := rfl
theorem p_85_5 {M : Mem} : PD M 85 5 = some 88 := rfl
theorem p_85_8 {M : Mem} : PD M 85 8 = some 89 := rfl
theorem p_85_9 {M : Mem} : PD M 85 9 = some 90 := rfl
theorem p_85_10 {M : Mem} : PD M 85 10 = some 91 := rfl
theorem p_85_12 {M : Mem} : PD M 85 12 = some 92 := rfl
theorem p_85_13 {M : Mem} : PD M 85 13 = some 93 := rfl
theorem p_85_14 {M : Mem} : PD M 85 14 = some 94 := rfl
theorem p_85_15 {M : Mem} : PD M 85 15 = some 95 := rfl
theorem p_85_16 {M : Mem} : PD M 85 16 = some 96 := rfl
theorem p_85_19 {M : Mem} : PD M 85 19 = some 97 := rfl
theorem p_85_36 {M : Mem} : PD M 85 36 = some 98 := rfl
theorem p_85_37 {M : Mem} : PD M 85 37 = some 99 := rfl
theorem p_85_38 {M : Mem} : PD M 85 38 = some 100 := rfl
theorem p_85_39 {M : Mem} : PD M 85 39 = some 101 := rfl
theorem p_85_40 {M : Mem} : PD M 85 40 = some 102 := rfl
theorem p_85_41 {M : Mem} : PD M 85 41 = some 103 := rfl
theorem p_85_42 {M : Mem} : PD M 85 42 = some 104 := rfl
theorem p_85_45 {M : Mem} : PD M 85 45 = some 105 := rfl
theorem p_85_48 {M : Mem} : PD M 85 48 = some 106 := rfl
theorem p_85_49 {M : Mem} : PD M 85 49 = some 107 := rfl
theorem p_85_50 {M : Mem} : PD M 85 50 = some 108 := rfl
theorem p_85_55 {M : Mem} : PD M 85 55 = some 109 := rfl
theorem p_85_56 {M : Mem} : PD M 85 56 = some 110 := rfl
theorem p_85_57 {M : Mem} : PD M 85 57 = some 111 := rfl
theorem p_85_58 {M : Mem} : PD M 85 58 = some 112 := rfl
abbrev hOK (k : Nat) : Prop := k = 1 ∨ k = 14 ∨ k = 27
abbrev aOK (k : Nat) : Prop := (5 < k ∧ k < 14 ∧ k % 2 = 0) ∨ (18 < k ∧ k < 27 ∧ k % 2 = 1) ∨ (31 < k ∧ k < 40 ∧ k % 2 = 0)
abbrev sOK (k : Nat) : Prop := 76 < k ∧ k < 85 ∧ k % 2 = 1
abbrev gOK (k : Nat) : Prop := 58 < k ∧ k < 77 ∧ k % 3 = 2
theorem co_all {N : Nat} {Q R : Nat → Prop} [DecidablePred Q] [DecidablePred R] (h : (List.range N).all (fun i => decide (Q i → R i)) = true) : ∀ i, i < N → Q i → R i := fun i hi hq => (of_decide_eq_true (List.all_eq_true.mp h i (List.mem_range.mpr hi))) hq
theorem PD_P0 {M : Mem} {k j : Nat} (h : k ≠ 45) : PD M k j = P0 k j := if_neg (fun z => h z.1)
theorem hOK_t : ∀ k, k < 113 → hOK k → (shf k = (1, 8) ∧ shf (k + 1) = (20, 8) ∧ shf (k + 2) = (20, 8) ∧ shf (k + 3) = (20, 8) ∧ shf (k + 4) = (22, 4)) ∧ P0 k 4 = some (k + 1) ∧ P0 k 5 = some (k + 2) ∧ P0 k 6 = some (k + 3) ∧ P0 k 7 = some (k + 4) ∧ ∀ j, j < 4 → P0 (k + 4) j = some (k + 5 + 2 * j) ∧ aOK (k + 5 + 2 * j) := by
  rintro k _ (rfl | rfl | rfl) <;> decide
theorem aOK_t : ∀ k, k < 113 → aOK k → shf k = (2, 5) ∧ shf (k + 1) = (20, 5) ∧ P0 k 4 = some (k + 1) := co_all (by decide +kernel)
theorem sOK_t : ∀ k, k < 113 → sOK k → shf k = (4, 3) ∧ shf (k + 1) = (20, 40) ∧ P0 k 2 = some (k + 1) := co_all (by decide +kernel)
theorem gOK_t : ∀ k, k < 113 → gOK k → shf k = (6, 2) ∧ shf (k + 1) = (20, 160) ∧ shf (k + 2) = (20, 3) ∧ P0 k 0 = some (k + 1) ∧ P0 k 1 = some (k + 2) := co_all (by decide +kernel)
section S6
variable {n k : Nat} {M : Mem}
theorem hOK_lt (h : hOK k) : k < 80 := by unfold hOK at h; omega
theorem aOK_lt (h : aOK k) : k < 40 := by unfold aOK at h; omega
theorem hO (hn : 85 ≤ n) (h : hOK k) : OB n k 1 8 := ⟨by have := hOK_lt h; omega, by have := hOK_lt h; omega, (hOK_t k (by have := hOK_lt h; omega) h).1.1⟩
theorem hO1 (hn : 85 ≤ n) (h : hOK k) : OB n (k + 1) 20 8 := ⟨by have := hOK_lt h; omega, by have := hOK_lt h; omega, (hOK_t k (by have := hOK_lt h; omega) h).1.2.1⟩
theorem hO2 (hn : 85 ≤ n) (h : hOK k) : OB n (k + 2) 20 8 := ⟨by have := hOK_lt h; omega, by have := hOK_lt h; omega, (hOK_t k (by have := hOK_lt h; omega) h).1.2.2.1⟩
theorem hO3 (hn : 85 ≤ n) (h : hOK k) : OB n (k + 3) 20 8 := ⟨by have := hOK_lt h; omega, by have := hOK_lt h; omega, (hOK_t k (by have := hOK_lt h; omega) h).1.2.2.2.1⟩
theorem hO4 (hn : 85 ≤ n) (h : hOK k) : OB n (k + 4) 22 4 := ⟨by have := hOK_lt h; omega, by have := hOK_lt h; omega, (hOK_t k (by have := hOK_lt h; omega) h).1.2.2.2.2⟩
theorem hP4 (h : hOK k) : PD M k 4 = some (k + 1) := by rw [PD_P0 (by have h := h; unfold hOK at h; omega)]; exact (hOK_t k (by have := hOK_lt h; omega) h).2.1
theorem hP5 (h : hOK k) : PD M k 5 = some (k + 2) := by rw [PD_P0 (by have h := h; unfold hOK at h; omega)]; exact (hOK_t k (by have := hOK_lt h; omega) h).2.2.1
theorem hP6 (h : hOK k) : PD M k 6 = some (k + 3) := by rw [PD_P0 (by have h := h; unfold hOK at h; omega)]; exact (hOK_t k (by have := hOK_lt h; omega) h).2.2.2.1
theorem hP7 (h : hOK k) : PD M k 7 = some (k + 4) := by rw [PD_P0 (by have h := h; unfold hOK at h; omega)]; exact (hOK_t k (by have := hOK_lt h; omega) h).2.2.2.2.1
theorem ix_lt {i : Int32} {N : Nat} (h : ib i N) : ix i < N := by unfold ix; have := h; omega
theorem hPA {i : Int32} (h : hOK k) (hi : ib i 4) : PD M (k + 4) (ix i) = some (k + 5 + 2 * ix i) := by rw [PD_P0 (by have h := h; unfold hOK at h; omega)]; exact ((hOK_t k (by have := hOK_lt h; omega) h).2.2.2.2.2 _ (ix_lt hi)).1
theorem hA {i : Int32} (h : hOK k) (hi : ib i 4) : aOK (k + 5 + 2 * ix i) := ((hOK_t k (by have := hOK_lt h; omega) h).2.2.2.2.2 _ (ix_lt hi)).2
theorem aO (hn : 85 ≤ n) (h : aOK k) : OB n k 2 5 := ⟨by have := aOK_lt h; omega, by have := aOK_lt h; omega, (aOK_t k (by have := aOK_lt h; omega) h).1⟩
theorem aO1 (hn : 85 ≤ n) (h : aOK k) : OB n (k + 1) 20 5 := ⟨by have := aOK_lt h; omega, by have := aOK_lt h; omega, (aOK_t k (by have := aOK_lt h; omega) h).2.1⟩
theorem aP4 (h : aOK k) : PD M k 4 = some (k + 1) := by rw [PD_P0 (by have := aOK_lt h; omega)]; exact (aOK_t k (by have := aOK_lt h; omega) h).2.2
theorem sO (hn : 85 ≤ n) (h : sOK k) : OB n k 4 3 := ⟨by have := h.2.1; omega, by have := h.2.1; omega, (sOK_t k (by have := h.2.1; omega) h).1⟩
theorem sO1 (hn : 85 ≤ n) (h : sOK k) : OB n (k + 1) 20 40 := ⟨by have := h.2.1; have := h.2.2; omega, by have := h.2.1; omega, (sOK_t k (by have := h.2.1; omega) h).2.1⟩
theorem sP2 (h : sOK k) : PD M k 2 = some (k + 1) := by rw [PD_P0 (by have := h.1; omega)]; exact (sOK_t k (by have := h.2.1; omega) h).2.2
theorem gO (hn : 85 ≤ n) (h : gOK k) : OB n k 6 2 := ⟨by have := h.2.1; omega, by have := h.2.1; omega, (gOK_t k (by have := h.2.1; omega) h).1⟩
theorem gO1 (hn : 85 ≤ n) (h : gOK k) : OB n (k + 1) 20 160 := ⟨by have := h.2.1; omega, by have := h.2.1; omega, (gOK_t k (by have := h.2.1; omega) h).2.1⟩
theorem gO2 (hn : 85 ≤ n) (h : gOK k) : OB n (k + 2) 20 3 := ⟨by have := h.2.1; omega, by have := h.2.1; omega, (gOK_t k (by have := h.2.1; omega) h).2.2.1⟩
theorem gP0 (h : gOK k) : PD M k 0 = some (k + 1) := by rw [PD_P0 (by have := h.1; omega)]; exact (gOK_t k (by have := h.2.1; omega) h).2.2.2.1
theorem gP1 (h : gOK k) : PD M k 1 = some (k + 2) := by rw [PD_P0 (by have := h.1; omega)]; exact (gOK_t k (by have := h.2.1; omega) h).2.2.2.2
theorem txP : ∀ j, j < 6 → P0 44 j = some (59 + 3 * j) ∧ gOK (59 + 3 * j) := by decide +kernel
theorem shP : ∀ j, j < 4 → P0 57 j = some (77 + 2 * j) ∧ sOK (77 + 2 * j) := by decide +kernel
theorem tPA {i : Int32} (hi : ib i 6) : PD M 44 (ix i) = some (59 + 3 * ix i) := by rw [PD_P0 (by decide)]; exact (txP _ (ix_lt hi)).1
theorem tA {i : Int32} (hi : ib i 6) : gOK (59 + 3 * ix i) := (txP _ (ix_lt hi)).2
theorem qPA {i : Int32} (hi : ib i 4) : PD M 57 (ix i) = some (77 + 2 * ix i) := by rw [PD_P0 (by decide)]; exact (shP _ (ix_lt hi)).1
theorem qA {i : Int32} (hi : ib i 4) : sOK (77 + 2 * ix i) := (shP _ (ix_lt hi)).2
end S6
theorem sl_0 {l : List (Option Value)} : ∀ (i : Nat) (v : Value), ([] : List (Option Value))[i]? = some (some v) → l[i]? = some (some v) := fun i v h => by simp at h
theorem sl_n {l' l : List (Option Value)} {b : Option Value} (h : ∀ (i : Nat) (v : Value), l'[i]? = some (some v) → l[i]? = some (some v)) : ∀ (i : Nat) (v : Value), (none :: l')[i]? = some (some v) → (b :: l)[i]? = some (some v)
  | 0, v, e => by simp at e
  | i + 1, v, e => by simpa using h i v (by simpa using e)
theorem sl_k {l' l : List (Option Value)} {b : Option Value} (h : ∀ (i : Nat) (v : Value), l'[i]? = some (some v) → l[i]? = some (some v)) : ∀ (i : Nat) (v : Value), (b :: l')[i]? = some (some v) → (b :: l)[i]? = some (some v)
  | 0, v, e => by simpa using e
  | i + 1, v, e => by simpa using h i v (by simpa using e)
/-- decode rows by a table -/
def tbq (cc : ByteArray) (q : Nat × Instr × Nat) : Bool := match decode cc q.1 with
  | .ok x => decide (x = (q.2.1, q.2.2))
  | .error _ => false
theorem tbq_ok {cc : ByteArray} {q : Nat × Instr × Nat} (h : tbq cc q = true) : decode cc q.1 = .ok (q.2.1, q.2.2) := by
  unfold tbq at h
  cases hd : decode cc q.1 with
  | error e => rw [hd] at h; cases h
  | ok x => rw [hd] at h; rw [of_decide_eq_true h]
def TB (cc : ByteArray) (t : List (Nat × Instr × Nat)) : Prop := t.all (fun q => tbq cc q) = true
theorem tb_at {cc : ByteArray} {t : List (Nat × Instr × Nat)} (h : TB cc t) (i : Nat) {pc len : Nat} {ins : Instr} (hi : t[i]? = some (pc, ins, len)) : decode cc pc = .ok (ins, len) := tbq_ok (q := (pc, ins, len)) (List.all_eq_true.mp h _ (List.mem_of_getElem? hi))
abbrev Ti (n : Nat) (q : Int32 × Mem) : Tg := fun rv n1 M1 P1 => rv = some (.int q.1) ∧ n1 = n ∧ M1 = q.2 ∧ P1 = PD q.2
abbrev Tl (n : Nat) (q : Int64 × Mem) : Tg := fun rv n1 M1 P1 => rv = some (.long q.1) ∧ n1 = n ∧ M1 = q.2 ∧ P1 = PD q.2
abbrev Tv (n : Nat) (q : Mem) : Tg := fun rv n1 M1 P1 => rv = none ∧ n1 = n ∧ M1 = q ∧ P1 = PD q
/-- the frame of a steady walk: room, level, locals, answer -/
def SS (K : Cx) (n lv nL : Nat) (ret : Option FieldType) (T : Tg) : Prop := Rm K n ∧ (n - kn K ≤ 0 ∧ sln n - sln (kn K) ≤ 0) ∧ lv ≤ (kR K).frames ∧ kL K = nL ∧ RT K ret T 0 0
section R6
variable {K : Cx} {own : String} {cc : ByteArray} {n : Nat} {M : Mem} {pc : Nat} {loc : List (Option Value)} {st : List Value} {lv0 nL0 : Nat} {ret0 : Option FieldType} {T0 : Tg}
variable {β : Type} {A B : Option β} {r : β}
theorem sw_put (C : Ctx K own cc) {k ci N j lk : Nat} {x : Int32} {Cn : String} {T : u_T} (ob : OB n k ci N) (hc : vwCl[ci]? = some (Cn, T, N)) (hj : j < N) (hj2 : N ≤ 100) (h45 : k ≠ 45 ∨ j ≠ 0) (hf : fso (vty ci j) = 0) (hfin : (T j).2.2.2 = false) (hn : narrow (vty ci j) (.int x) = .int x) (hfit : fits (vty ci j) (.int x) = true) (hg : Cond.fieldLink own lk (T j).1 (T j).2.1 (T j).2.2.1 ∈ lw_gd) (d : decode cc pc = .ok (.putfield lk, 3)) (kk : AS K n (wr M k j x) (pc + 3) loc st) : AS K n M pc loc (.int x :: .ref k :: st) :=
  aw_put C ob hc hj hj2 hf hfin hn hfit hg d (by rw [← PD_wr (M := M) (x := x) h45]; exact kk)
theorem sw_putL (C : Ctx K own cc) {k ci N j lk : Nat} {x : Int64} {Cn : String} {T : u_T} (ob : OB n k ci N) (hc : vwCl[ci]? = some (Cn, T, N)) (hj : j < N) (hj2 : N ≤ 100) (h45 : k ≠ 45) (hf : vty ci j = .long) (hfin : (T j).2.2.2 = false) (hg : Cond.fieldLink own lk (T j).1 (T j).2.1 (T j).2.2.1 ∈ lw_gd) (d : decode cc pc = .ok (.putfield lk, 3)) (kk : AS K n (wr (wr M k (j + 100) (lgHi x)) k j (lgLo x)) (pc + 3) loc st) : AS K n M pc loc (.long x :: .ref k :: st) :=
  aw_putL C ob hc hj hj2 hf hfin hg d (by rw [← PD_wr (M := M) (j := j + 100) (x := lgHi x) (Or.inl h45), ← PD_wr (M := wr M k (j + 100) (lgHi x)) (j := j) (x := lgLo x) (Or.inl h45)]; exact kk)
theorem ob_ne {k N t : Nat} (ob : OB n k (t + 20) N) : k ≠ 45 := fun h => by
  have := ob.2.2
  rw [h] at this
  have e : shf 45 = (0, 15) := rfl
  rw [e] at this
  injection this with h1 h2
  omega
theorem sw_iast (C : Ctx K own cc) {k N : Nat} {i x : Int32} (ob : OB n k 20 N) (d : decode cc pc = .ok (.iastore, 1)) (h : (if ib i N then A else none) = some r) (kk : A = some r → AS K n (wr M k (ix i) x) (pc + 1) loc st) : AS K n M pc loc (.int x :: .int i :: .ref k :: st) :=
  aw_iast C ob d h (fun h => by rw [← PD_wr (M := M) (j := ix i) (x := x) (Or.inl (ob_ne (t := 0) ob))]; exact kk h)
theorem sw_zast (C : Ctx K own cc) {k N : Nat} {i x : Int32} (ob : OB n k 21 N) (d : decode cc pc = .ok (.bastore, 1)) (h : (if ib i N then A else none) = some r) (kk : A = some r → AS K n (wr M k (ix i) (vp_nar .boolean x)) (pc + 1) loc st) : AS K n M pc loc (.int x :: .int i :: .ref k :: st) :=
  aw_zast C ob d h (fun h => by rw [← PD_wr (M := M) (j := ix i) (x := vp_nar .boolean x) (Or.inl (ob_ne (t := 1) ob))]; exact kk h)
theorem sw_copy (C : Ctx K own cc) {k1 k2 N1 N2 lk : Nat} {sp dp m : Int32} (ob1 : OB n k1 20 N1) (ob2 : OB n k2 20 N2) (hg : Cond.methodLink own lk arraycopyName ∈ lw_gd) (hst : (st.map fun v => v.category).sum ≤ 20) (d : decode cc pc = .ok (.invokestatic lk, 3)) (h : (if 0 ≤ sp.toInt ∧ 0 ≤ dp.toInt ∧ 0 ≤ m.toInt ∧ sp.toInt + m.toInt ≤ N1 ∧ dp.toInt + m.toInt ≤ N2 then A else none) = some r) (hw : Cond.native arraycopyName ∈ lw_gd ∧ Cond.static arraycopyName ∈ lw_gd ∧ Cond.initialized "java/lang/System" ∈ lw_gd)
    (kk : A = some r → AS K n (wrR M k2 (va_cpy (M k1) (M k2) (ix sp) (ix dp) (ix m))) (pc + 3) loc st) : AS K n M pc loc (.int m :: .int dp :: .ref k2 :: .int sp :: .ref k1 :: st) :=
  aw_copy C ob1 ob2 hg hst d h hw (fun h => by rw [← PD_wrR (M := M) (f := va_cpy (M k1) (M k2) (ix sp) (ix dp) (ix m)) (ob_ne (t := 0) ob2)]; exact kk h)
theorem sw_aald (C : Ctx K own cc) (t : Nat) {k N q : Nat} {i : Int32} {Cn : String} (ob : OB n k (t + 20) N) (ht : 2 ≤ t) (hty : (tysO (kw K))[t]? = some (wA (kw K) t, .object Cn)) (d : decode cc pc = .ok (.aaload, 1)) (hq : ib i N → PD M k (ix i) = some q) (h : (if ib i N then A else none) = some r) (kk : ib i N → A = some r → AS K n M (pc + 1) loc (.ref q :: st)) : AS K n M pc loc (.int i :: .ref k :: st) := by
  by_cases hi : ib i N
  · exact aw_aald C t ob ht hty d h hq (fun h => kk hi h)
  · rw [if_neg hi] at h
    cases h
/-- the day's house, read: a guard says which it can be -/
theorem sw_getH (C : Ctx K own cc) {lk : Nat} (hn : 85 ≤ n) (hg : Cond.fieldLink own lk (TX0 0).1 (TX0 0).2.1 (TX0 0).2.2.1 ∈ lw_gd) (d : decode cc pc = .ok (.getfield lk, 3)) (h : (if hOK (ix (M 45 0)) then A else none) = some r) (kk : hOK (ix (M 45 0)) → A = some r → AS K n M (pc + 3) loc (.ref (ix (M 45 0)) :: st)) : AS K n M pc loc (.ref 45 :: st) := by
  by_cases hi : hOK (ix (M 45 0))
  · rw [if_pos hi] at h
    exact aw_getR C (ob_45 hn) rfl (by decide) rfl rfl hg d (kk hi h)
  · rw [if_neg hi] at h
    cases h
/-- and put -/
theorem sw_putH (C : Ctx K own cc) {q lk : Nat} (hn : 85 ≤ n) (hq : hOK q) (hg : Cond.fieldLink own lk (TX0 0).1 (TX0 0).2.1 (TX0 0).2.2.1 ∈ lw_gd) (d : decode cc pc = .ok (.putfield lk, 3)) (kk : AS K n (wr M 45 0 (nI q)) (pc + 3) loc st) : AS K n M pc loc (.ref q :: .ref 45 :: st) := by
  intro ls H locs hl hP hS
  have ob := ob_45 hn
  have he := wsO_at (w := kw K) (M := M) (P := PD M) ob.1
  rw [ent_ob ob.2.2 (by decide)] at he
  rw [List.map_cons, List.map_cons, cvr ob.2.1]
  refine va_put C.1 C.2.1 C.2.2.2.2.1 (cl_words _ (List.mem_of_getElem? (i := 0) rfl)) (vty 0) (vty_ok 0 (by decide) _ rfl) (vnm_ok 0 (by decide) _ rfl) C.2.2.2.1 C.2.2.2.2.2.1.1 hP wsO_D hS 45 he rfl 0 (by decide) (C.2.2.2.2.1 _ hg) (fun _ h => h) rfl (vty_ok 0 (by decide) _ rfl 0 (by decide)) rfl rfl (by simp) d (fun H1 locs1 hP1 _ hS1 => kk ls H1 locs1 hl ?_ hS1)
  have e0 : ix (nI q) = q := by rcases hq with rfl | rfl | rfl <;> rfl
  have ep : ∀ a b, ¬ (a = 45 ∧ b = 0) → PD (wr M 45 0 (nI q)) a b = PD M a b := fun a b h => by unfold PD; rw [if_neg h, if_neg h]
  rw [← wsO_set (M := M) (P := PD M) (M' := wr M 45 0 (nI q)) (P' := PD (wr M 45 0 (nI q))) ob.1 _ (fun a _ ha => ?_)]
  · exact hP1
  · rw [ent_ob ob.2.2 (by decide)]
    refine congrArg (fun l => Sum.inr (0, l)) (rng_set ?_ ?_).symm
    · show va_rf ((PD (wr M 45 0 (nI q)) 45 0).map (wad (kw K))) = cv (kw K) (.ref q)
      unfold PD
      rw [if_pos ⟨rfl, rfl⟩, wr_same, e0]
      rfl
    · intro i _ hi
      unfold fvl
      rw [wr_at hi, wr_at (show i + 100 ≠ 0 by omega), ep 45 i (fun z => hi z.2)]
  · have e1 : wr M 45 0 (nI q) a = M a := wr_ne ha
    have e2 : PD (wr M 45 0 (nI q)) a = PD M a := funext fun b => ep a b (fun z => ha z.1)
    unfold ent fvl
    rw [e1, e2]
theorem bnd {α : Type} {X : Option α} {F : α → Option β} (h : X.bind F = some r) : ∃ q, X = some q ∧ F q = some r := by
  cases X with
  | none => cases h
  | some q => exact ⟨q, rfl, h⟩
theorem sw_0 (S : SS K n lv0 nL0 ret0 T0) : n - kn K + 0 ≤ (kR K).cells ∧ sln n - sln (kn K) + 0 ≤ (kR K).slots := S.1.2
theorem sw_cVi (C : Ctx K own cc) (S : SS K n lv0 nL0 ret0 T0) {k ci N lk na maxL lv : Nat} {y : MethodName} {bytes : ByteArray} {ret : Option FieldType} {Cn : String} {TT : u_T} (as rest : List Value) {X : Option (Int32 × Mem)} {F : Int32 × Mem → Option β} (d : decode cc pc = .ok (.invokevirtual lk, 3)) (h : X.bind F = some r) (hM : ∀ q, X = some q → CM (kl K) (kw K) y bytes maxL ret lv 0 0 (.ref k :: as) n M (PD M) (Ti n q)) (mf : MF y bytes maxL ret na) (ob : OB n k ci N) (hc : vwCl[ci]? = some (Cn, TT, N)) (hy : y.cls = Cn) (hw : Cond.methodLink own lk y ∈ lw_gd ∧ Cond.instanceMethod y ∈ lw_gd ∧ Cond.selects y.cls y y ∈ lw_gd) (hna : as.length = na) (hlv : lv + 1 ≤ lv0) (hs : st = as.reverse ++ .ref k :: rest) (hst : (rest.map fun v => v.category).sum ≤ 8) (kk : ∀ r1 M1, F (r1, M1) = some r → AS K n M1 (pc + 3) loc (.int r1 :: rest)) : AS K n M pc loc st := by
  obtain ⟨q, e, h⟩ := bnd h
  refine aw_cV (rest := rest) C S.1 d (hM q e) mf ob hc hy hw hna (Nat.le_trans hlv S.2.2.1) hs hst (sw_0 S) (fun _ _ _ _ t => ⟨t.2.1, by rw [t.2.1, Nat.add_zero]⟩) (fun rv n1 M1 P1 t => ?_)
  obtain ⟨rfl, rfl, rfl, rfl⟩ := t
  exact kk q.1 q.2 h
theorem sw_cVl (C : Ctx K own cc) (S : SS K n lv0 nL0 ret0 T0) {k ci N lk na maxL lv : Nat} {y : MethodName} {bytes : ByteArray} {ret : Option FieldType} {Cn : String} {TT : u_T} (as rest : List Value) {X : Option (Int64 × Mem)} {F : Int64 × Mem → Option β} (d : decode cc pc = .ok (.invokevirtual lk, 3)) (h : X.bind F = some r) (hM : ∀ q, X = some q → CM (kl K) (kw K) y bytes maxL ret lv 0 0 (.ref k :: as) n M (PD M) (Tl n q)) (mf : MF y bytes maxL ret na) (ob : OB n k ci N) (hc : vwCl[ci]? = some (Cn, TT, N)) (hy : y.cls = Cn) (hw : Cond.methodLink own lk y ∈ lw_gd ∧ Cond.instanceMethod y ∈ lw_gd ∧ Cond.selects y.cls y y ∈ lw_gd) (hna : as.length = na) (hlv : lv + 1 ≤ lv0) (hs : st = as.reverse ++ .ref k :: rest) (hst : (rest.map fun v => v.category).sum ≤ 8) (kk : ∀ r1 M1, F (r1, M1) = some r → AS K n M1 (pc + 3) loc (.long r1 :: rest)) : AS K n M pc loc st := by
  obtain ⟨q, e, h⟩ := bnd h
  refine aw_cV (rest := rest) C S.1 d (hM q e) mf ob hc hy hw hna (Nat.le_trans hlv S.2.2.1) hs hst (sw_0 S) (fun _ _ _ _ t => ⟨t.2.1, by rw [t.2.1, Nat.add_zero]⟩) (fun rv n1 M1 P1 t => ?_)
  obtain ⟨rfl, rfl, rfl, rfl⟩ := t
  exact kk q.1 q.2 h
theorem sw_cVv (C : Ctx K own cc) (S : SS K n lv0 nL0 ret0 T0) {k ci N lk na maxL lv : Nat} {y : MethodName} {bytes : ByteArray} {Cn : String} {TT : u_T} (as rest : List Value) {X : Option Mem} {F : Mem → Option β} (d : decode cc pc = .ok (.invokevirtual lk, 3)) (h : X.bind F = some r) (hM : ∀ q, X = some q → CM (kl K) (kw K) y bytes maxL none lv 0 0 (.ref k :: as) n M (PD M) (Tv n q)) (mf : MF y bytes maxL none na) (ob : OB n k ci N) (hc : vwCl[ci]? = some (Cn, TT, N)) (hy : y.cls = Cn) (hw : Cond.methodLink own lk y ∈ lw_gd ∧ Cond.instanceMethod y ∈ lw_gd ∧ Cond.selects y.cls y y ∈ lw_gd) (hna : as.length = na) (hlv : lv + 1 ≤ lv0) (hs : st = as.reverse ++ .ref k :: rest) (hst : (rest.map fun v => v.category).sum ≤ 8) (kk : ∀ M1, F M1 = some r → AS K n M1 (pc + 3) loc rest) : AS K n M pc loc st := by
  obtain ⟨q, e, h⟩ := bnd h
  refine aw_cV (rest := rest) C S.1 d (hM q e) mf ob hc hy hw hna (Nat.le_trans hlv S.2.2.1) hs hst (sw_0 S) (fun _ _ _ _ t => ⟨t.2.1, by rw [t.2.1, Nat.add_zero]⟩) (fun rv n1 M1 P1 t => ?_)
  obtain ⟨rfl, rfl, rfl, rfl⟩ := t
  exact kk _ h
theorem sw_cSi (C : Ctx K own cc) (S : SS K n lv0 nL0 ret0 T0) {lk na maxL lv : Nat} {y : MethodName} {bytes : ByteArray} {ret : Option FieldType} (as rest : List Value) {X : Option (Int32 × Mem)} {F : Int32 × Mem → Option β} (d : decode cc pc = .ok (.invokestatic lk, 3)) (h : X.bind F = some r) (hM : ∀ q, X = some q → CM (kl K) (kw K) y bytes maxL ret lv 0 0 as n M (PD M) (Ti n q)) (mf : MF y bytes maxL ret na) (hw : Cond.methodLink own lk y ∈ lw_gd ∧ Cond.static y ∈ lw_gd) (hna : as.length = na) (hlv : lv + 1 ≤ lv0) (hs : st = as.reverse ++ rest) (hst : (rest.map fun v => v.category).sum ≤ 8) (kk : ∀ r1 M1, F (r1, M1) = some r → AS K n M1 (pc + 3) loc (.int r1 :: rest)) : AS K n M pc loc st := by
  obtain ⟨q, e, h⟩ := bnd h
  refine aw_cS (rest := rest) C S.1 d (hM q e) mf hw hna (Nat.le_trans hlv S.2.2.1) hs hst (sw_0 S) (fun _ _ _ _ t => ⟨t.2.1, by rw [t.2.1, Nat.add_zero]⟩) (fun rv n1 M1 P1 t => ?_)
  obtain ⟨rfl, rfl, rfl, rfl⟩ := t
  exact kk q.1 q.2 h
theorem sw_cSNi (C : Ctx K own cc) (S : SS K n lv0 nL0 ret0 T0) {lk na maxL lv : Nat} {y : MethodName} {host : String} {bytes : ByteArray} {ret : Option FieldType} (as rest : List Value) {X : Option (Int32 × Mem)} {F : Int32 × Mem → Option β} (d : decode cc pc = .ok (.invokestatic lk, 3)) (h : X.bind F = some r) (hM : ∀ q, X = some q → CM (kl K) (kw K) y bytes maxL ret lv 0 0 as n M (PD M) (Ti n q)) (mf : MF y bytes maxL ret na) (hw : (own, lk, y, host) ∈ nstM ∧ Cond.static y ∈ lw_gd) (hna : as.length = na) (hlv : lv + 1 ≤ lv0) (hs : st = as.reverse ++ rest) (hst : (rest.map fun v => v.category).sum ≤ 8) (kk : ∀ r1 M1, F (r1, M1) = some r → AS K n M1 (pc + 3) loc (.int r1 :: rest)) : AS K n M pc loc st := by
  obtain ⟨q, e, h⟩ := bnd h
  refine aw_cSN (rest := rest) C S.1 d (hM q e) mf hw hna (Nat.le_trans hlv S.2.2.1) hs hst (sw_0 S) (fun _ _ _ _ t => ⟨t.2.1, by rw [t.2.1, Nat.add_zero]⟩) (fun rv n1 M1 P1 t => ?_)
  obtain ⟨rfl, rfl, rfl, rfl⟩ := t
  exact kk q.1 q.2 h
theorem sw_iret (C : Ctx K own cc) {ty : FieldType} {x : Int32} {q : Int32 × Mem} (S : SS K n lv0 nL0 (some ty) (Ti n q)) (hnar : narrow ty (.int x) = .int x) (d : decode cc pc = .ok (.ireturn, 1)) (h : some (x, M) = some q) : AS K n M pc loc [.int x] :=
  aw_iret C S.2.2.2.2 hnar S.2.1 d (by cases h; exact ⟨rfl, rfl, rfl, rfl⟩)
theorem sw_lret (C : Ctx K own cc) {x : Int64} {q : Int64 × Mem} (S : SS K n lv0 nL0 (some .long) (Tl n q)) (d : decode cc pc = .ok (.lreturn, 1)) (h : some (x, M) = some q) : AS K n M pc loc [.long x] :=
  aw_lret C S.2.2.2.2 S.2.1 d (by cases h; exact ⟨rfl, rfl, rfl, rfl⟩)
theorem sw_vret (C : Ctx K own cc) {q : Mem} (S : SS K n lv0 nL0 none (Tv n q)) (d : decode cc pc = .ok (.return_, 1)) (h : some M = some q) : AS K n M pc loc [] :=
  aw_vret C S.2.2.2.2 S.2.1 d (by cases h; exact ⟨rfl, rfl, rfl, rfl⟩)
theorem sm_of {l : Launch} {w : Wd} {y : MethodName} {cc : ByteArray} {maxL : Nat} {ret : Option FieldType} {lv na : Nat} {as : List Value} {T : Tg} {loc : List (Option Value)} (mf : MF y cc maxL ret na) (hlv : 1 ≤ lv) (has : (entL as).length ≤ maxL) (hloc : padL maxL (entL as) = loc)
    (body : ∀ K : Cx, kl K = l → kw K = w → Ctx K y.cls cc → SS K n lv maxL ret T → AS K n M 0 loc []) : CM l w y cc maxL ret lv 0 0 as n M (PD M) T :=
  cm_of mf hlv has hloc (fun K C rt hl hw hL hn hR _ => body K hl hw C ⟨⟨by rw [hn]; exact Nat.le_refl _, by rw [hn, Nat.sub_self]; exact Nat.zero_le _, by rw [hn, Nat.sub_self]; exact Nat.zero_le _⟩, ⟨by rw [hn, Nat.sub_self]; exact Nat.le_refl _, by rw [hn, Nat.sub_self]; exact Nat.le_refl _⟩, by rw [hR]; exact Nat.le_refl _, hL, rt⟩)
end R6
end
section
/-! 065: more steady rows; the JDK's length and charAt of the two texts -/
theorem w_max : Cond.static Lib.Math.max.name ∈ lw_gd ∧ Cond.initialized "java/lang/Math" ∈ lw_gd ∧ Cond.code Lib.Math.max.name Lib.Math.max.code 2 (some .int) ∈ lw_gd := ⟨gd_of (by decide +kernel) rfl, gd_of (by decide +kernel) rfl, gd_of (by decide +kernel) rfl⟩
theorem w_min : Cond.static Lib.Math.min.name ∈ lw_gd ∧ Cond.initialized "java/lang/Math" ∈ lw_gd ∧ Cond.code Lib.Math.min.name Lib.Math.min.code 2 (some .int) ∈ lw_gd := ⟨gd_of (by decide +kernel) rfl, gd_of (by decide +kernel) rfl, gd_of (by decide +kernel) rfl⟩
theorem w_abs : Cond.static Lib.Math.abs.name ∈ lw_gd ∧ Cond.initialized "java/lang/Math" ∈ lw_gd ∧ Cond.code Lib.Math.abs.name Lib.Math.abs.code 1 (some .int) ∈ lw_gd := ⟨gd_of (by decide +kernel) rfl, gd_of (by decide +kernel) rfl, gd_of (by decide +kernel) rfl⟩
theorem w_copy : Cond.native arraycopyName ∈ lw_gd ∧ Cond.static arraycopyName ∈ lw_gd ∧ Cond.initialized "java/lang/System" ∈ lw_gd := ⟨gd_of (by decide +kernel) rfl, gd_of (by decide +kernel) rfl, gd_of (by decide +kernel) rfl⟩
section R65
variable {n k : Nat} {M : Mem}
theorem hN45 (h : hOK k) : k ≠ 45 := by unfold hOK at h; omega
theorem aN45 (h : aOK k) : k ≠ 45 := by unfold aOK at h; omega
theorem sN45 (h : sOK k) : k ≠ 45 := by unfold sOK at h; omega
theorem gN45 (h : gOK k) : k ≠ 45 := by unfold gOK at h; omega
theorem hPA_5 {i : Int32} (hi : ib i 4) : PD M 5 (ix i) = some (6 + 2 * ix i) := hPA (k := 1) (Or.inl rfl) hi
theorem hA_5 {i : Int32} (hi : ib i 4) : aOK (6 + 2 * ix i) := hA (k := 1) (Or.inl rfl) hi
theorem hPA_18 {i : Int32} (hi : ib i 4) : PD M 18 (ix i) = some (19 + 2 * ix i) := hPA (k := 14) (Or.inr (Or.inl rfl)) hi
theorem hA_18 {i : Int32} (hi : ib i 4) : aOK (19 + 2 * ix i) := hA (k := 14) (Or.inr (Or.inl rfl)) hi
theorem hPA_31 {i : Int32} (hi : ib i 4) : PD M 31 (ix i) = some (32 + 2 * ix i) := hPA (k := 27) (Or.inr (Or.inr rfl)) hi
theorem hA_31 {i : Int32} (hi : ib i 4) : aOK (32 + 2 * ix i) := hA (k := 27) (Or.inr (Or.inr rfl)) hi
end R65
section R66
variable {K : Cx} {own : String} {cc : ByteArray} {n : Nat} {M : Mem} {P : Pm} {pc : Nat} {loc : List (Option Value)} {st : List Value} {lv0 nL0 : Nat} {ret0 : Option FieldType} {T0 : Tg}
variable {β : Type} {A B : Option β} {r : β}
theorem sw_idiv (C : Ctx K own cc) {x y : Int32} (d : decode cc pc = .ok (.idiv, 1)) (h : (if y = 0 then none else A) = some r) (kk : A = some r → AW K n M P (pc + 1) loc (.int (x / y) :: st)) : AW K n M P pc loc (.int y :: .int x :: st) := by
  by_cases hy : y = 0
  · rw [if_pos hy] at h; cases h
  · exact aw_idiv C hy d (kk ((if_neg hy).symm.trans h))
theorem sw_irem (C : Ctx K own cc) {x y : Int32} (d : decode cc pc = .ok (.irem, 1)) (h : (if y = 0 then none else A) = some r) (kk : A = some r → AW K n M P (pc + 1) loc (.int (x - x / y * y) :: st)) : AW K n M P pc loc (.int y :: .int x :: st) := by
  by_cases hy : y = 0
  · rw [if_pos hy] at h; cases h
  · exact aw_irem C hy d (kk ((if_neg hy).symm.trans h))
theorem sw_ldiv (C : Ctx K own cc) {x y : Int64} (d : decode cc pc = .ok (.ldiv, 1)) (h : (if y = 0 then none else A) = some r) (kk : A = some r → AW K n M P (pc + 1) loc (.long (x / y) :: st)) : AW K n M P pc loc (.long y :: .long x :: st) := by
  by_cases hy : y = 0
  · rw [if_pos hy] at h; cases h
  · exact aw_ldiv C hy d (kk ((if_neg hy).symm.trans h))
theorem sw_lrem (C : Ctx K own cc) {x y : Int64} (d : decode cc pc = .ok (.lrem, 1)) (h : (if y = 0 then none else A) = some r) (kk : A = some r → AW K n M P (pc + 1) loc (.long (x - x / y * y) :: st)) : AW K n M P pc loc (.long y :: .long x :: st) := by
  by_cases hy : y = 0
  · rw [if_pos hy] at h; cases h
  · exact aw_lrem C hy d (kk ((if_neg hy).symm.trans h))
theorem sw_zret (C : Ctx K own cc) {x : Int32} {q : Int32 × Mem} (S : SS K n lv0 nL0 (some .boolean) (Ti n q)) (d : decode cc pc = .ok (.ireturn, 1)) (h : (if x = 0 ∨ x = 1 then some (x, M) else none) = some q) : AS K n M pc loc [.int x] := by
  by_cases hx : x = 0 ∨ x = 1
  · rw [if_pos hx] at h
    exact sw_iret C S (by rcases hx with rfl | rfl <;> rfl) d h
  · rw [if_neg hx] at h; cases h
theorem ls_out {x : Int32} (c1 : ¬ x = 10) (c2 : ¬ x = 42) (c3 : ¬ x = 43) (c4 : ¬ x = 45) (c5 : ¬ x = 60) (c6 : ¬ x = 61) {d a b c e f g : Int} : Op.lookupswitch.offset (#[(10, a), (42, b), (43, c), (45, e), (60, f), (61, g)] : Array (Int × Int)).toList d x.toInt = d := by
  have k : ∀ v : Int32, ¬ x = v → ¬ v.toInt = x.toInt := fun v h e => h (Int32.toInt_inj.mp e.symm)
  have k1 := k 10 c1
  have k2 := k 42 c2
  have k3 := k 43 c3
  have k4 := k 45 c4
  have k5 := k 60 c5
  have k6 := k 61 c6
  rw [show (10 : Int32).toInt = 10 by decide] at k1
  rw [show (42 : Int32).toInt = 42 by decide] at k2
  rw [show (43 : Int32).toInt = 43 by decide] at k3
  rw [show (45 : Int32).toInt = 45 by decide] at k4
  rw [show (60 : Int32).toInt = 60 by decide] at k5
  rw [show (61 : Int32).toInt = 61 by decide] at k6
  simp [Op.lookupswitch.offset, k1, k2, k3, k4, k5, k6]
end R66
end
section
/-! 07: words, tables -/
def wqb (q : Nat × Cond) : Bool := match lw_tbl[q.1]? with
  | some c => decide (c = q.2) && goodWord q.2
  | none => false
def wq (l : List (Nat × Cond)) : Prop := l.all wqb = true
theorem wq_at {l : List (Nat × Cond)} (h : wq l) (i : Nat) {k : Nat} {w : Cond} (hi : l[i]? = some (k, w)) : w ∈ lw_gd := by
  have h1 : wqb (k, w) = true := List.all_eq_true.mp h _ (List.mem_of_getElem? hi)
  unfold wqb at h1
  dsimp only at h1
  cases hk : lw_tbl[k]? with
  | none => rw [hk] at h1; cases h1
  | some c =>
    rw [hk] at h1
    simp only [Bool.and_eq_true, decide_eq_true_eq] at h1
    obtain ⟨rfl, h2⟩ := h1
    exact gd_of (List.mem_of_getElem? hk) h2
def wl0 : List (Nat × Cond) := [(0, Jvm.Cond.selects "NeverSeen$Reader" ⟨"NeverSeen$Reader", "advance", "()V"⟩ ⟨"NeverSeen$Reader", "advance", "()V"⟩), (1, Jvm.Cond.selects "NeverSeen$Reader" ⟨"NeverSeen$Reader", "takeWord", "()V"⟩ ⟨"NeverSeen$Reader", "takeWord", "()V"⟩), (2, Jvm.Cond.selects "NeverSeen$Reader" ⟨"NeverSeen$Reader", "wordOnTape", "()I"⟩ ⟨"NeverSeen$Reader", "wordOnTape", "()I"⟩), (3, Jvm.Cond.selects "NeverSeen$Reader" ⟨"NeverSeen$Reader", "isOnTape", "(II)Z"⟩ ⟨"NeverSeen$Reader", "isOnTape", "(II)Z"⟩), (4, Jvm.Cond.selects "NeverSeen$Reader" ⟨"NeverSeen$Reader", "refuse", "()V"⟩ ⟨"NeverSeen$Reader", "refuse", "()V"⟩), (5, Jvm.Cond.selects "NeverSeen$Reader" ⟨"NeverSeen$Reader", "takeNumber", "()V"⟩ ⟨"NeverSeen$Reader", "takeNumber", "()V"⟩), (6, Jvm.Cond.selects "NeverSeen$Reader" ⟨"NeverSeen$Reader", "expect", "(I)V"⟩ ⟨"NeverSeen$Reader", "expect", "(I)V"⟩), (7, Jvm.Cond.selects "NeverSeen$Reader" ⟨"NeverSeen$Reader", "readEither", "(I)V"⟩ ⟨"NeverSeen$Reader", "readEither", "(I)V"⟩), (8, Jvm.Cond.selects "NeverSeen$Reader" ⟨"NeverSeen$Reader", "readBoth", "(I)V"⟩ ⟨"NeverSeen$Reader", "readBoth", "(I)V"⟩), (9, Jvm.Cond.selects "NeverSeen$Reader" ⟨"NeverSeen$Reader", "readNot", "(I)V"⟩ ⟨"NeverSeen$Reader", "readNot", "(I)V"⟩), (10, Jvm.Cond.selects "NeverSeen$Reader" ⟨"NeverSeen$Reader", "write", "(I)V"⟩ ⟨"NeverSeen$Reader", "write", "(I)V"⟩), (11, Jvm.Cond.selects "NeverSeen$Reader" ⟨"NeverSeen$Reader", "readSum", "(I)V"⟩ ⟨"NeverSeen$Reader", "readSum", "(I)V"⟩), (12, Jvm.Cond.selects "NeverSeen$Reader" ⟨"NeverSeen$Reader", "readTerm", "(I)V"⟩ ⟨"NeverSeen$Reader", "readTerm", "(I)V"⟩), (13, Jvm.Cond.selects "NeverSeen$Reader" ⟨"NeverSeen$Reader", "readOne", "(I)V"⟩ ⟨"NeverSeen$Reader", "readOne", "(I)V"⟩), (14, Jvm.Cond.selects "NeverSeen" ⟨"NeverSeen", "longestFree", "(II)I"⟩ ⟨"NeverSeen", "longestFree", "(II)I"⟩), (15, Jvm.Cond.selects "NeverSeen" ⟨"NeverSeen", "isAskedOfMorning", "(I)Z"⟩ ⟨"NeverSeen", "isAskedOfMorning", "(I)Z"⟩), (16, Jvm.Cond.selects "NeverSeen$Day" ⟨"NeverSeen$Day", "turn", "(III)V"⟩ ⟨"NeverSeen$Day", "turn", "(III)V"⟩), (17, Jvm.Cond.selects "NeverSeen$Day" ⟨"NeverSeen$Day", "tells", "(IIII)I"⟩ ⟨"NeverSeen$Day", "tells", "(IIII)I"⟩), (18, Jvm.Cond.selects "NeverSeen$Day" ⟨"NeverSeen$Day", "othersWith", "(I)I"⟩ ⟨"NeverSeen$Day", "othersWith", "(I)I"⟩), (19, Jvm.Cond.selects "NeverSeen$Day" ⟨"NeverSeen$Day", "isAllDone", "()Z"⟩ ⟨"NeverSeen$Day", "isAllDone", "()Z"⟩), (20, Jvm.Cond.selects "NeverSeen" ⟨"NeverSeen", "firstOrder", "(I)I"⟩ ⟨"NeverSeen", "firstOrder", "(I)I"⟩), (21, Jvm.Cond.selects "NeverSeen" ⟨"NeverSeen", "nextOrder", "(I)V"⟩ ⟨"NeverSeen", "nextOrder", "(I)V"⟩), (22, Jvm.Cond.selects "NeverSeen" ⟨"NeverSeen", "swapPlaces", "(II)V"⟩ ⟨"NeverSeen", "swapPlaces", "(II)V"⟩), (23, Jvm.Cond.selects "NeverSeen" ⟨"NeverSeen", "isTold", "(LNeverSeen$Sheet;I)Z"⟩ ⟨"NeverSeen", "isTold", "(LNeverSeen$Sheet;I)Z"⟩), (24, Jvm.Cond.selects "NeverSeen" ⟨"NeverSeen", "doorChoices", "(I)I"⟩ ⟨"NeverSeen", "doorChoices", "(I)I"⟩), (25, Jvm.Cond.selects "NeverSeen" ⟨"NeverSeen", "isSeenFromDoor", "(LNeverSeen$Sheet;I)Z"⟩ ⟨"NeverSeen", "isSeenFromDoor", "(LNeverSeen$Sheet;I)Z"⟩), (27, Jvm.Cond.selects "NeverSeenModel" ⟨"NeverSeenModel", "isOf", "(II)Z"⟩ ⟨"NeverSeenModel", "isOf", "(II)Z"⟩), (28, Jvm.Cond.selects "NeverSeenModel" ⟨"NeverSeenModel", "isStay", "(I)Z"⟩ ⟨"NeverSeenModel", "isStay", "(I)Z"⟩), (29, Jvm.Cond.selects "NeverSeenModel" ⟨"NeverSeenModel", "isMaid", "(I)Z"⟩ ⟨"NeverSeenModel", "isMaid", "(I)Z"⟩), (30, Jvm.Cond.selects "NeverSeenModel" ⟨"NeverSeenModel", "lays", "(III)V"⟩ ⟨"NeverSeenModel", "lays", "(III)V"⟩)]
theorem wl0_ok : wq wl0 := (by decide +kernel : wl0.all wqb = true)
def wl1 : List (Nat × Cond) := [(31, Jvm.Cond.selects "NeverSeenModel" ⟨"NeverSeenModel", "gathers", "()V"⟩ ⟨"NeverSeenModel", "gathers", "()V"⟩), (32, Jvm.Cond.selects "NeverSeenModel" ⟨"NeverSeenModel", "isBeside", "(II)Z"⟩ ⟨"NeverSeenModel", "isBeside", "(II)Z"⟩), (33, Jvm.Cond.selects "NeverSeenModel" ⟨"NeverSeenModel", "nextTo", "(II)I"⟩ ⟨"NeverSeenModel", "nextTo", "(II)I"⟩), (34, Jvm.Cond.selects "NeverSeenModel" ⟨"NeverSeenModel", "masterIn", "(I)I"⟩ ⟨"NeverSeenModel", "masterIn", "(I)I"⟩), (35, Jvm.Cond.selects "NeverSeenModel" ⟨"NeverSeenModel", "longestOf", "(I)I"⟩ ⟨"NeverSeenModel", "longestOf", "(I)I"⟩), (36, Jvm.Cond.selects "NeverSeenModel" ⟨"NeverSeenModel", "read", "(II)I"⟩ ⟨"NeverSeenModel", "read", "(II)I"⟩), (37, Jvm.Cond.selects "NeverSeenModel" ⟨"NeverSeenModel", "next", "()V"⟩ ⟨"NeverSeenModel", "next", "()V"⟩), (38, Jvm.Cond.selects "NeverSeenModel" ⟨"NeverSeenModel", "byteAt", "(I)I"⟩ ⟨"NeverSeenModel", "byteAt", "(I)I"⟩), (39, Jvm.Cond.selects "NeverSeenModel" ⟨"NeverSeenModel", "isWord", "(IIIIIIII)Z"⟩ ⟨"NeverSeenModel", "isWord", "(IIIIIIII)Z"⟩), (40, Jvm.Cond.selects "NeverSeenModel" ⟨"NeverSeenModel", "isLetter", "(II)Z"⟩ ⟨"NeverSeenModel", "isLetter", "(II)Z"⟩), (41, Jvm.Cond.selects "NeverSeenModel" ⟨"NeverSeenModel", "part", "(Z)I"⟩ ⟨"NeverSeenModel", "part", "(Z)I"⟩), (42, Jvm.Cond.selects "NeverSeenModel" ⟨"NeverSeenModel", "fail", "()V"⟩ ⟨"NeverSeenModel", "fail", "()V"⟩), (43, Jvm.Cond.selects "NeverSeenModel" ⟨"NeverSeenModel", "either", "()I"⟩ ⟨"NeverSeenModel", "either", "()I"⟩), (44, Jvm.Cond.selects "NeverSeenModel" ⟨"NeverSeenModel", "both", "()I"⟩ ⟨"NeverSeenModel", "both", "()I"⟩), (45, Jvm.Cond.selects "NeverSeenModel" ⟨"NeverSeenModel", "not", "()I"⟩ ⟨"NeverSeenModel", "not", "()I"⟩), (46, Jvm.Cond.selects "NeverSeenModel" ⟨"NeverSeenModel", "opens", "()Z"⟩ ⟨"NeverSeenModel", "opens", "()Z"⟩), (47, Jvm.Cond.selects "NeverSeenModel" ⟨"NeverSeenModel", "added", "()I"⟩ ⟨"NeverSeenModel", "added", "()I"⟩), (48, Jvm.Cond.selects "NeverSeenModel" ⟨"NeverSeenModel", "term", "()I"⟩ ⟨"NeverSeenModel", "term", "()I"⟩), (49, Jvm.Cond.selects "NeverSeenModel" ⟨"NeverSeenModel", "atom", "()I"⟩ ⟨"NeverSeenModel", "atom", "()I"⟩), (50, Jvm.Cond.selects "NeverSeenModel" ⟨"NeverSeenModel", "isSign", "(I)Z"⟩ ⟨"NeverSeenModel", "isSign", "(I)Z"⟩), (51, Jvm.Cond.selects "NeverSeenModel" ⟨"NeverSeenModel", "name", "()I"⟩ ⟨"NeverSeenModel", "name", "()I"⟩), (52, Jvm.Cond.selects "NeverSeenModel" ⟨"NeverSeenModel", "livesAll", "(I)V"⟩ ⟨"NeverSeenModel", "livesAll", "(I)V"⟩), (53, Jvm.Cond.selects "NeverSeenModel" ⟨"NeverSeenModel", "startsOff", "()V"⟩ ⟨"NeverSeenModel", "startsOff", "()V"⟩), (54, Jvm.Cond.selects "NeverSeenModel" ⟨"NeverSeenModel", "lives", "(I)V"⟩ ⟨"NeverSeenModel", "lives", "(I)V"⟩), (55, Jvm.Cond.selects "NeverSeenModel" ⟨"NeverSeenModel", "acts", "(II)V"⟩ ⟨"NeverSeenModel", "acts", "(II)V"⟩), (56, Jvm.Cond.selects "NeverSeenModel" ⟨"NeverSeenModel", "aimOf", "(I)I"⟩ ⟨"NeverSeenModel", "aimOf", "(I)I"⟩), (57, Jvm.Cond.selects "NeverSeenModel" ⟨"NeverSeenModel", "says", "(IIII)I"⟩ ⟨"NeverSeenModel", "says", "(IIII)I"⟩), (58, Jvm.Cond.selects "NeverSeenModel" ⟨"NeverSeenModel", "worksOf", "(II)I"⟩ ⟨"NeverSeenModel", "worksOf", "(II)I"⟩), (59, Jvm.Cond.selects "NeverSeenModel" ⟨"NeverSeenModel", "takesOf", "(II)I"⟩ ⟨"NeverSeenModel", "takesOf", "(II)I"⟩), (60, Jvm.Cond.selects "NeverSeenModel" ⟨"NeverSeenModel", "isReady", "()Z"⟩ ⟨"NeverSeenModel", "isReady", "()Z"⟩)]
theorem wl1_ok : wq wl1 := (by decide +kernel : wl1.all wqb = true)
def wl2 : List (Nat × Cond) := [(61, Jvm.Cond.selects "NeverSeenModel" ⟨"NeverSeenModel", "leftAll", "()I"⟩ ⟨"NeverSeenModel", "leftAll", "()I"⟩), (62, Jvm.Cond.selects "NeverSeenModel" ⟨"NeverSeenModel", "orders", "(III)V"⟩ ⟨"NeverSeenModel", "orders", "(III)V"⟩), (63, Jvm.Cond.selects "NeverSeenModel" ⟨"NeverSeenModel", "dear", "()I"⟩ ⟨"NeverSeenModel", "dear", "()I"⟩), (64, Jvm.Cond.selects "NeverSeenModel" ⟨"NeverSeenModel", "isSo", "(II)Z"⟩ ⟨"NeverSeenModel", "isSo", "(II)Z"⟩), (65, Jvm.Cond.selects "NeverSeenModel" ⟨"NeverSeenModel", "tries", "(III)V"⟩ ⟨"NeverSeenModel", "tries", "(III)V"⟩), (66, Jvm.Cond.selects "NeverSeenModel" ⟨"NeverSeenModel", "draws", "(I)I"⟩ ⟨"NeverSeenModel", "draws", "(I)I"⟩), (68, Jvm.Cond.initialized "NeverSeen"), (69, Jvm.Cond.initialized "NeverSeen$House"), (70, Jvm.Cond.initialized "NeverSeen$Maid"), (71, Jvm.Cond.initialized "NeverSeen$Reader"), (72, Jvm.Cond.initialized "NeverSeen$Day"), (73, Jvm.Cond.initialized "NeverSeen$Ways"), (74, Jvm.Cond.initialized "NeverSeen$Wording"), (75, Jvm.Cond.initialized "NeverSeen$Sheet"), (76, Jvm.Cond.initialized "java/lang/String"), (77, Jvm.Cond.initialized "java/lang/StringLatin1"), (78, Jvm.Cond.initialized "jdk/internal/util/Preconditions"), (81, Jvm.Cond.initialized "NeverSeenModel"), (104, Jvm.Cond.fieldLink "NeverSeen$Maid" (9 : Nat) "NeverSeen$Maid" "kind" "I"), (105, Jvm.Cond.fieldLink "NeverSeen" (145 : Nat) "NeverSeen$Maid" "kind" "I"), (106, Jvm.Cond.fieldLink "NeverSeen$Maid" (15 : Nat) "NeverSeen$Maid" "number" "I"), (107, Jvm.Cond.fieldLink "NeverSeen$House" (55 : Nat) "NeverSeen$Maid" "number" "I"), (108, Jvm.Cond.fieldLink "NeverSeen$Day" (143 : Nat) "NeverSeen$Maid" "number" "I"), (109, Jvm.Cond.fieldLink "NeverSeen" (139 : Nat) "NeverSeen$Maid" "number" "I"), (110, Jvm.Cond.fieldLink "NeverSeen$Maid" (18 : Nat) "NeverSeen$Maid" "begins" "I"), (111, Jvm.Cond.fieldLink "NeverSeen$Day" (94 : Nat) "NeverSeen$Maid" "begins" "I"), (112, Jvm.Cond.fieldLink "NeverSeen$House" (58 : Nat) "NeverSeen$Maid" "begins" "I"), (113, Jvm.Cond.fieldLink "NeverSeen" (142 : Nat) "NeverSeen$Maid" "begins" "I"), (114, Jvm.Cond.fieldLink "NeverSeen$Maid" (21 : Nat) "NeverSeen$Maid" "listed" "I"), (115, Jvm.Cond.fieldLink "NeverSeen$Day" (99 : Nat) "NeverSeen$Maid" "listed" "I")]
theorem wl2_ok : wq wl2 := (by decide +kernel : wl2.all wqb = true)
def wl3 : List (Nat × Cond) := [(116, Jvm.Cond.fieldLink "NeverSeen" (123 : Nat) "NeverSeen$Maid" "listed" "I"), (117, Jvm.Cond.fieldLink "NeverSeen$Maid" (24 : Nat) "NeverSeen$Maid" "list" "[I"), (118, Jvm.Cond.fieldLink "NeverSeen$Day" (102 : Nat) "NeverSeen$Maid" "list" "[I"), (119, Jvm.Cond.fieldLink "NeverSeen" (126 : Nat) "NeverSeen$Maid" "list" "[I"), (132, Jvm.Cond.fieldLink "NeverSeen$House" (9 : Nat) "NeverSeen$House" "stairs" "I"), (133, Jvm.Cond.fieldLink "NeverSeen$Day" (72 : Nat) "NeverSeen$House" "stairs" "I"), (134, Jvm.Cond.fieldLink "NeverSeen" (129 : Nat) "NeverSeen$House" "stairs" "I"), (135, Jvm.Cond.fieldLink "NeverSeen$House" (15 : Nat) "NeverSeen$House" "stays" "I"), (136, Jvm.Cond.fieldLink "NeverSeen" (102 : Nat) "NeverSeen$House" "stays" "I"), (137, Jvm.Cond.fieldLink "NeverSeen$House" (18 : Nat) "NeverSeen$House" "maids" "I"), (138, Jvm.Cond.fieldLink "NeverSeen$Day" (87 : Nat) "NeverSeen$House" "maids" "I"), (139, Jvm.Cond.fieldLink "NeverSeen" (111 : Nat) "NeverSeen$House" "maids" "I"), (140, Jvm.Cond.fieldLink "NeverSeen$House" (21 : Nat) "NeverSeen$House" "rule" "I"), (141, Jvm.Cond.fieldLink "NeverSeen$Day" (149 : Nat) "NeverSeen$House" "rule" "I"), (142, Jvm.Cond.fieldLink "NeverSeen" (164 : Nat) "NeverSeen$House" "rule" "I"), (143, Jvm.Cond.fieldLink "NeverSeen$House" (24 : Nat) "NeverSeen$House" "stayRoom" "[I"), (144, Jvm.Cond.fieldLink "NeverSeen" (105 : Nat) "NeverSeen$House" "stayRoom" "[I"), (145, Jvm.Cond.fieldLink "NeverSeen$House" (28 : Nat) "NeverSeen$House" "stayMinutes" "[I"), (146, Jvm.Cond.fieldLink "NeverSeen" (108 : Nat) "NeverSeen$House" "stayMinutes" "[I"), (147, Jvm.Cond.fieldLink "NeverSeen$House" (31 : Nat) "NeverSeen$House" "work" "[I"), (148, Jvm.Cond.fieldLink "NeverSeen$Day" (80 : Nat) "NeverSeen$House" "work" "[I"), (149, Jvm.Cond.fieldLink "NeverSeen" (132 : Nat) "NeverSeen$House" "work" "[I"), (150, Jvm.Cond.fieldLink "NeverSeen$House" (36 : Nat) "NeverSeen$House" "maid" "[LNeverSeen$Maid;"), (151, Jvm.Cond.fieldLink "NeverSeen$Day" (90 : Nat) "NeverSeen$House" "maid" "[LNeverSeen$Maid;"), (152, Jvm.Cond.fieldLink "NeverSeen" (114 : Nat) "NeverSeen$House" "maid" "[LNeverSeen$Maid;"), (176, Jvm.Cond.fieldLink "NeverSeen$Reader" (9 : Nat) "NeverSeen$Reader" "tape" "[I"), (177, Jvm.Cond.fieldLink "NeverSeen$Reader" (15 : Nat) "NeverSeen$Reader" "size" "I"), (178, Jvm.Cond.fieldLink "NeverSeen" (161 : Nat) "NeverSeen$Reader" "size" "I"), (179, Jvm.Cond.fieldLink "NeverSeen$Reader" (19 : Nat) "NeverSeen$Reader" "at" "I"), (180, Jvm.Cond.fieldLink "NeverSeen$Reader" (22 : Nat) "NeverSeen$Reader" "behind" "I")]
theorem wl3_ok : wq wl3 := (by decide +kernel : wl3.all wqb = true)
def wl4 : List (Nat × Cond) := [(181, Jvm.Cond.fieldLink "NeverSeen$Reader" (25 : Nat) "NeverSeen$Reader" "token" "I"), (182, Jvm.Cond.fieldLink "NeverSeen$Reader" (28 : Nat) "NeverSeen$Reader" "number" "I"), (183, Jvm.Cond.fieldLink "NeverSeen$Reader" (31 : Nat) "NeverSeen$Reader" "fault" "I"), (184, Jvm.Cond.fieldLink "NeverSeen$Reader" (34 : Nat) "NeverSeen$Reader" "code" "[I"), (185, Jvm.Cond.fieldLink "NeverSeen$Reader" (37 : Nat) "NeverSeen$Reader" "ends" "[I"), (186, Jvm.Cond.fieldLink "NeverSeen$Reader" (40 : Nat) "NeverSeen$Reader" "written" "I"), (222, Jvm.Cond.fieldLink "NeverSeen$Ways" (9 : Nat) "NeverSeen$Ways" "next" "[I"), (223, Jvm.Cond.fieldLink "NeverSeen$Ways" (15 : Nat) "NeverSeen$Ways" "laidFor" "I"), (229, Jvm.Cond.fieldLink "NeverSeen$Day" (56 : Nat) "NeverSeen$Day" "house" "LNeverSeen$House;"), (230, Jvm.Cond.fieldLink "NeverSeen$Day" (60 : Nat) "NeverSeen$Day" "texts" "[LNeverSeen$Wording;"), (231, Jvm.Cond.fieldLink "NeverSeen$Day" (12 : Nat) "NeverSeen$Day" "ways" "LNeverSeen$Ways;"), (232, Jvm.Cond.fieldLink "NeverSeen$Day" (18 : Nat) "NeverSeen$Day" "names" "[I"), (233, Jvm.Cond.fieldLink "NeverSeen$Day" (22 : Nat) "NeverSeen$Day" "stack" "[I"), (234, Jvm.Cond.fieldLink "NeverSeen$Day" (25 : Nat) "NeverSeen$Day" "room" "[I"), (235, Jvm.Cond.fieldLink "NeverSeen" (238 : Nat) "NeverSeen$Day" "room" "[I"), (236, Jvm.Cond.fieldLink "NeverSeen$Day" (28 : Nat) "NeverSeen$Day" "to" "[I"), (237, Jvm.Cond.fieldLink "NeverSeen$Day" (31 : Nat) "NeverSeen$Day" "onWay" "[I"), (238, Jvm.Cond.fieldLink "NeverSeen$Day" (34 : Nat) "NeverSeen$Day" "place" "[I"), (239, Jvm.Cond.fieldLink "NeverSeen$Day" (37 : Nat) "NeverSeen$Day" "seen" "[I"), (240, Jvm.Cond.fieldLink "NeverSeen$Day" (40 : Nat) "NeverSeen$Day" "waited" "[I"), (241, Jvm.Cond.fieldLink "NeverSeen$Day" (43 : Nat) "NeverSeen$Day" "work" "[I"), (242, Jvm.Cond.fieldLink "NeverSeen" (180 : Nat) "NeverSeen$Day" "work" "[I"), (243, Jvm.Cond.fieldLink "NeverSeen$Day" (46 : Nat) "NeverSeen$Day" "asked" "I"), (244, Jvm.Cond.fieldLink "NeverSeen$Day" (50 : Nat) "NeverSeen$Day" "shillings" "I"), (245, Jvm.Cond.fieldLink "NeverSeen" (187 : Nat) "NeverSeen$Day" "shillings" "I"), (246, Jvm.Cond.fieldLink "NeverSeen$Day" (53 : Nat) "NeverSeen$Day" "ready" "I"), (247, Jvm.Cond.fieldLink "NeverSeen" (190 : Nat) "NeverSeen$Day" "ready" "I"), (286, Jvm.Cond.fieldLink "NeverSeen$Wording" (9 : Nat) "NeverSeen$Wording" "code" "[I"), (287, Jvm.Cond.fieldLink "NeverSeen$Wording" (15 : Nat) "NeverSeen$Wording" "ends" "[I"), (298, Jvm.Cond.fieldLink "NeverSeen$Sheet" (9 : Nat) "NeverSeen$Sheet" "sort" "I")]
theorem wl4_ok : wq wl4 := (by decide +kernel : wl4.all wqb = true)
def wl5 : List (Nat × Cond) := [(299, Jvm.Cond.fieldLink "NeverSeen" (260 : Nat) "NeverSeen$Sheet" "sort" "I"), (300, Jvm.Cond.fieldLink "NeverSeen$Sheet" (15 : Nat) "NeverSeen$Sheet" "size" "I"), (301, Jvm.Cond.fieldLink "NeverSeen" (222 : Nat) "NeverSeen$Sheet" "size" "I"), (302, Jvm.Cond.fieldLink "NeverSeen$Sheet" (18 : Nat) "NeverSeen$Sheet" "items" "[I"), (303, Jvm.Cond.fieldLink "NeverSeen" (223 : Nat) "NeverSeen$Sheet" "items" "[I"), (312, Jvm.Cond.methodLink "NeverSeen" (66 : Nat) ({ cls := "java/lang/String", name := "length", desc := "()I" } : Jvm.MethodName)), (313, Jvm.Cond.instanceMethod ({ cls := "java/lang/String", name := "length", desc := "()I" } : Jvm.MethodName)), (314, Jvm.Cond.selects "java/lang/String" ({ cls := "java/lang/String", name := "length", desc := "()I" } : Jvm.MethodName) ({ cls := "java/lang/String", name := "length", desc := "()I" } : Jvm.MethodName)), (316, Jvm.Cond.methodLink "java/lang/String" (335 : Nat) ({ cls := "java/lang/String", name := "coder", desc := "()B" } : Jvm.MethodName)), (317, Jvm.Cond.instanceMethod ({ cls := "java/lang/String", name := "coder", desc := "()B" } : Jvm.MethodName)), (318, Jvm.Cond.selects "java/lang/String" ({ cls := "java/lang/String", name := "coder", desc := "()B" } : Jvm.MethodName) ({ cls := "java/lang/String", name := "coder", desc := "()B" } : Jvm.MethodName)), (320, Jvm.Cond.fieldLink "java/lang/String" (38 : Nat) "java/lang/String" "COMPACT_STRINGS" "Z"), (322, Jvm.Cond.methodLink "NeverSeen" (72 : Nat) ({ cls := "java/lang/String", name := "charAt", desc := "(I)C" } : Jvm.MethodName)), (323, Jvm.Cond.instanceMethod ({ cls := "java/lang/String", name := "charAt", desc := "(I)C" } : Jvm.MethodName)), (324, Jvm.Cond.selects "java/lang/String" ({ cls := "java/lang/String", name := "charAt", desc := "(I)C" } : Jvm.MethodName) ({ cls := "java/lang/String", name := "charAt", desc := "(I)C" } : Jvm.MethodName)), (326, Jvm.Cond.methodLink "java/lang/String" (492 : Nat) ({ cls := "java/lang/String", name := "isLatin1", desc := "()Z" } : Jvm.MethodName)), (327, Jvm.Cond.instanceMethod ({ cls := "java/lang/String", name := "isLatin1", desc := "()Z" } : Jvm.MethodName)), (328, Jvm.Cond.selects "java/lang/String" ({ cls := "java/lang/String", name := "isLatin1", desc := "()Z" } : Jvm.MethodName) ({ cls := "java/lang/String", name := "isLatin1", desc := "()Z" } : Jvm.MethodName)), (330, Jvm.Cond.methodLink "java/lang/String" (495 : Nat) ({ cls := "java/lang/StringLatin1", name := "charAt", desc := "([BI)C" } : Jvm.MethodName)), (331, Jvm.Cond.static ({ cls := "java/lang/StringLatin1", name := "charAt", desc := "([BI)C" } : Jvm.MethodName)), (333, Jvm.Cond.methodLink "java/lang/StringLatin1" (9 : Nat) ({ cls := "java/lang/String", name := "checkIndex", desc := "(II)V" } : Jvm.MethodName)), (334, Jvm.Cond.static ({ cls := "java/lang/String", name := "checkIndex", desc := "(II)V" } : Jvm.MethodName)), (336, Jvm.Cond.fieldLink "java/lang/String" (1053 : Nat) "jdk/internal/util/Preconditions" "SIOOBE_FORMATTER" "Ljava/util/function/BiFunction;"), (338, Jvm.Cond.methodLink "java/lang/String" (1059 : Nat) ({ cls := "jdk/internal/util/Preconditions", name := "checkIndex", desc := "(IILjava/util/function/BiFunction;)I" } : Jvm.MethodName)), (339, Jvm.Cond.static ({ cls := "jdk/internal/util/Preconditions", name := "checkIndex", desc := "(IILjava/util/function/BiFunction;)I" } : Jvm.MethodName)), (360, Jvm.Cond.methodLink "NeverSeen" (76 : Nat) ({ cls := "NeverSeen$Reader", name := "add", desc := "(I)Z" } : Jvm.MethodName)), (362, Jvm.Cond.selects "NeverSeen$Reader" ({ cls := "NeverSeen$Reader", name := "add", desc := "(I)Z" } : Jvm.MethodName) ({ cls := "NeverSeen$Reader", name := "add", desc := "(I)Z" } : Jvm.MethodName)), (364, Jvm.Cond.methodLink "NeverSeen" (80 : Nat) ({ cls := "NeverSeen$Reader", name := "read", desc := "(LNeverSeen$Wording;)I" } : Jvm.MethodName)), (366, Jvm.Cond.selects "NeverSeen$Reader" ({ cls := "NeverSeen$Reader", name := "read", desc := "(LNeverSeen$Wording;)I" } : Jvm.MethodName) ({ cls := "NeverSeen$Reader", name := "read", desc := "(LNeverSeen$Wording;)I" } : Jvm.MethodName)), (368, Jvm.Cond.methodLink "NeverSeen$Reader" (43 : Nat) ({ cls := "NeverSeen$Reader", name := "advance", desc := "()V" } : Jvm.MethodName))]
theorem wl5_ok : wq wl5 := (by decide +kernel : wl5.all wqb = true)
def wl6 : List (Nat × Cond) := [(372, Jvm.Cond.methodLink "NeverSeen$Reader" (84 : Nat) ({ cls := "NeverSeen$Reader", name := "isLetter", desc := "(I)Z" } : Jvm.MethodName)), (373, Jvm.Cond.static ({ cls := "NeverSeen$Reader", name := "isLetter", desc := "(I)Z" } : Jvm.MethodName)), (375, Jvm.Cond.methodLink "NeverSeen$Reader" (88 : Nat) ({ cls := "NeverSeen$Reader", name := "takeWord", desc := "()V" } : Jvm.MethodName)), (379, Jvm.Cond.methodLink "NeverSeen$Reader" (100 : Nat) ({ cls := "NeverSeen$Reader", name := "wordOnTape", desc := "()I" } : Jvm.MethodName)), (384, Jvm.Cond.methodLink "NeverSeen$Reader" (106 : Nat) ({ cls := "java/lang/String", name := "length", desc := "()I" } : Jvm.MethodName)), (385, Jvm.Cond.methodLink "NeverSeen$Reader" (111 : Nat) ({ cls := "java/lang/String", name := "charAt", desc := "(I)C" } : Jvm.MethodName)), (386, Jvm.Cond.methodLink "NeverSeen$Reader" (115 : Nat) ({ cls := "NeverSeen$Reader", name := "isOnTape", desc := "(II)Z" } : Jvm.MethodName)), (390, Jvm.Cond.methodLink "NeverSeen$Reader" (81 : Nat) ({ cls := "NeverSeen$Reader", name := "refuse", desc := "()V" } : Jvm.MethodName)), (394, Jvm.Cond.methodLink "NeverSeen$Reader" (91 : Nat) ({ cls := "NeverSeen$Reader", name := "isDigit", desc := "(I)Z" } : Jvm.MethodName)), (395, Jvm.Cond.static ({ cls := "NeverSeen$Reader", name := "isDigit", desc := "(I)Z" } : Jvm.MethodName)), (397, Jvm.Cond.methodLink "NeverSeen$Reader" (94 : Nat) ({ cls := "NeverSeen$Reader", name := "takeNumber", desc := "()V" } : Jvm.MethodName)), (401, Jvm.Cond.methodLink "NeverSeen$Reader" (97 : Nat) ({ cls := "NeverSeen$Reader", name := "isSign", desc := "(I)Z" } : Jvm.MethodName)), (402, Jvm.Cond.static ({ cls := "NeverSeen$Reader", name := "isSign", desc := "(I)Z" } : Jvm.MethodName)), (404, Jvm.Cond.methodLink "NeverSeen$Reader" (46 : Nat) ({ cls := "NeverSeen$Reader", name := "expect", desc := "(I)V" } : Jvm.MethodName)), (408, Jvm.Cond.methodLink "NeverSeen$Reader" (50 : Nat) ({ cls := "NeverSeen$Reader", name := "readEither", desc := "(I)V" } : Jvm.MethodName)), (412, Jvm.Cond.methodLink "NeverSeen$Reader" (59 : Nat) ({ cls := "NeverSeen$Reader", name := "readBoth", desc := "(I)V" } : Jvm.MethodName)), (416, Jvm.Cond.methodLink "NeverSeen$Reader" (65 : Nat) ({ cls := "NeverSeen$Reader", name := "readNot", desc := "(I)V" } : Jvm.MethodName)), (420, Jvm.Cond.methodLink "NeverSeen$Reader" (62 : Nat) ({ cls := "NeverSeen$Reader", name := "write", desc := "(I)V" } : Jvm.MethodName)), (424, Jvm.Cond.methodLink "NeverSeen$Reader" (68 : Nat) ({ cls := "NeverSeen$Reader", name := "readSum", desc := "(I)V" } : Jvm.MethodName)), (428, Jvm.Cond.methodLink "NeverSeen$Reader" (71 : Nat) ({ cls := "NeverSeen$Reader", name := "readTerm", desc := "(I)V" } : Jvm.MethodName)), (432, Jvm.Cond.methodLink "NeverSeen$Reader" (74 : Nat) ({ cls := "NeverSeen$Reader", name := "readOne", desc := "(I)V" } : Jvm.MethodName)), (437, Jvm.Cond.static ({ cls := "NeverSeen", name := "within", desc := "(II)Z" } : Jvm.MethodName)), (439, Jvm.Cond.methodLink "NeverSeen$Reader" (53 : Nat) ({ cls := "NeverSeen$Wording", name := "become", desc := "([I[I)V" } : Jvm.MethodName)), (441, Jvm.Cond.selects "NeverSeen$Wording" ({ cls := "NeverSeen$Wording", name := "become", desc := "([I[I)V" } : Jvm.MethodName) ({ cls := "NeverSeen$Wording", name := "become", desc := "([I[I)V" } : Jvm.MethodName)), (443, Jvm.Cond.methodLink "NeverSeen$Wording" (18 : Nat) ({ cls := "java/lang/System", name := "arraycopy", desc := "(Ljava/lang/Object;ILjava/lang/Object;II)V" } : Jvm.MethodName)), (446, Jvm.Cond.fieldLink "NeverSeen" (10 : Nat) "NeverSeen" "house" "LNeverSeen$House;"), (447, Jvm.Cond.fieldLink "NeverSeen" (16 : Nat) "NeverSeen" "kept" "LNeverSeen$House;"), (448, Jvm.Cond.fieldLink "NeverSeen" (19 : Nat) "NeverSeen" "would" "LNeverSeen$House;"), (449, Jvm.Cond.fieldLink "NeverSeen" (22 : Nat) "NeverSeen" "imaged" "Z"), (450, Jvm.Cond.fieldLink "NeverSeen" (29 : Nat) "NeverSeen" "reader" "LNeverSeen$Reader;")]
theorem wl6_ok : wq wl6 := (by decide +kernel : wl6.all wqb = true)
def wl7 : List (Nat × Cond) := [(451, Jvm.Cond.fieldLink "NeverSeen" (35 : Nat) "NeverSeen" "texts" "[LNeverSeen$Wording;"), (452, Jvm.Cond.fieldLink "NeverSeen" (39 : Nat) "NeverSeen" "textCount" "I"), (453, Jvm.Cond.fieldLink "NeverSeen" (48 : Nat) "NeverSeen" "day" "LNeverSeen$Day;"), (454, Jvm.Cond.fieldLink "NeverSeen" (54 : Nat) "NeverSeen" "sheets" "[LNeverSeen$Sheet;"), (455, Jvm.Cond.fieldLink "NeverSeen" (58 : Nat) "NeverSeen" "order" "[I"), (482, Jvm.Cond.fieldLink "NeverSeen" (84 : Nat) "NeverSeen" "LEAST" "[I"), (484, Jvm.Cond.methodLink "NeverSeen" (87 : Nat) ({ cls := "NeverSeen", name := "within", desc := "(II)Z" } : Jvm.MethodName)), (485, Jvm.Cond.fieldLink "NeverSeen" (91 : Nat) "NeverSeen" "MOST" "[I"), (487, Jvm.Cond.methodLink "NeverSeen" (94 : Nat) ({ cls := "NeverSeen", name := "told", desc := "(II)I" } : Jvm.MethodName)), (489, Jvm.Cond.selects "NeverSeen" ({ cls := "NeverSeen", name := "told", desc := "(II)I" } : Jvm.MethodName) ({ cls := "NeverSeen", name := "told", desc := "(II)I" } : Jvm.MethodName)), (491, Jvm.Cond.methodLink "NeverSeen" (135 : Nat) ({ cls := "NeverSeen", name := "toldOfMaid", desc := "(LNeverSeen$Maid;I)I" } : Jvm.MethodName)), (492, Jvm.Cond.static ({ cls := "NeverSeen", name := "toldOfMaid", desc := "(LNeverSeen$Maid;I)I" } : Jvm.MethodName)), (494, Jvm.Cond.methodLink "NeverSeen" (148 : Nat) ({ cls := "NeverSeen$Maid", name := "roomListed", desc := "(I)I" } : Jvm.MethodName)), (496, Jvm.Cond.selects "NeverSeen$Maid" ({ cls := "NeverSeen$Maid", name := "roomListed", desc := "(I)I" } : Jvm.MethodName) ({ cls := "NeverSeen$Maid", name := "roomListed", desc := "(I)I" } : Jvm.MethodName)), (499, Jvm.Cond.methodLink "NeverSeen" (98 : Nat) ({ cls := "NeverSeen$House", name := "put", desc := "(III)V" } : Jvm.MethodName)), (501, Jvm.Cond.selects "NeverSeen$House" ({ cls := "NeverSeen$House", name := "put", desc := "(III)V" } : Jvm.MethodName) ({ cls := "NeverSeen$House", name := "put", desc := "(III)V" } : Jvm.MethodName)), (510, Jvm.Cond.selects "NeverSeen" ({ cls := "NeverSeen", name := "maid", desc := "(III)I" } : Jvm.MethodName) ({ cls := "NeverSeen", name := "maid", desc := "(III)I" } : Jvm.MethodName)), (512, Jvm.Cond.methodLink "NeverSeen" (118 : Nat) ({ cls := "NeverSeen$Maid", name := "arrive", desc := "(III)V" } : Jvm.MethodName)), (514, Jvm.Cond.selects "NeverSeen$Maid" ({ cls := "NeverSeen$Maid", name := "arrive", desc := "(III)V" } : Jvm.MethodName) ({ cls := "NeverSeen$Maid", name := "arrive", desc := "(III)V" } : Jvm.MethodName)), (529, Jvm.Cond.methodLink "NeverSeen" (152 : Nat) ({ cls := "NeverSeen$Ways", name := "far", desc := "(III)I" } : Jvm.MethodName)), (530, Jvm.Cond.static ({ cls := "NeverSeen$Ways", name := "far", desc := "(III)I" } : Jvm.MethodName)), (532, Jvm.Cond.methodLink "NeverSeen$Ways" (19 : Nat) ({ cls := "java/lang/Math", name := "abs", desc := "(I)I" } : Jvm.MethodName)), (535, Jvm.Cond.methodLink "NeverSeen$Ways" (25 : Nat) ({ cls := "java/lang/Math", name := "min", desc := "(II)I" } : Jvm.MethodName)), (538, Jvm.Cond.methodLink "NeverSeen" (158 : Nat) ({ cls := "NeverSeen$Ways", name := "nextRoom", desc := "(III)I" } : Jvm.MethodName)), (539, Jvm.Cond.static ({ cls := "NeverSeen$Ways", name := "nextRoom", desc := "(III)I" } : Jvm.MethodName)), (541, Jvm.Cond.methodLink "NeverSeen$Ways" (29 : Nat) ({ cls := "NeverSeen$Ways", name := "far", desc := "(III)I" } : Jvm.MethodName)), (558, Jvm.Cond.methodLink "NeverSeen" (167 : Nat) ({ cls := "NeverSeen$House", name := "masterIn", desc := "(I)I" } : Jvm.MethodName)), (560, Jvm.Cond.selects "NeverSeen$House" ({ cls := "NeverSeen$House", name := "masterIn", desc := "(I)I" } : Jvm.MethodName) ({ cls := "NeverSeen$House", name := "masterIn", desc := "(I)I" } : Jvm.MethodName)), (570, Jvm.Cond.methodLink "NeverSeen" (170 : Nat) ({ cls := "NeverSeen", name := "longestFree", desc := "(II)I" } : Jvm.MethodName)), (582, Jvm.Cond.methodLink "NeverSeen" (173 : Nat) ({ cls := "NeverSeen", name := "isAskedOfMorning", desc := "(I)Z" } : Jvm.MethodName))]
theorem wl7_ok : wq wl7 := (by decide +kernel : wl7.all wqb = true)
def wl8 : List (Nat × Cond) := [(586, Jvm.Cond.methodLink "NeverSeen" (176 : Nat) ({ cls := "NeverSeen$Day", name := "run", desc := "(LNeverSeen$House;I)V" } : Jvm.MethodName)), (588, Jvm.Cond.selects "NeverSeen$Day" ({ cls := "NeverSeen$Day", name := "run", desc := "(LNeverSeen$House;I)V" } : Jvm.MethodName) ({ cls := "NeverSeen$Day", name := "run", desc := "(LNeverSeen$House;I)V" } : Jvm.MethodName)), (590, Jvm.Cond.methodLink "NeverSeen$Day" (64 : Nat) ({ cls := "NeverSeen$Day", name := "start", desc := "(LNeverSeen$House;)V" } : Jvm.MethodName)), (592, Jvm.Cond.selects "NeverSeen$Day" ({ cls := "NeverSeen$Day", name := "start", desc := "(LNeverSeen$House;)V" } : Jvm.MethodName) ({ cls := "NeverSeen$Day", name := "start", desc := "(LNeverSeen$House;)V" } : Jvm.MethodName)), (594, Jvm.Cond.methodLink "NeverSeen$Day" (77 : Nat) ({ cls := "NeverSeen$Ways", name := "lay", desc := "(I)V" } : Jvm.MethodName)), (596, Jvm.Cond.selects "NeverSeen$Ways" ({ cls := "NeverSeen$Ways", name := "lay", desc := "(I)V" } : Jvm.MethodName) ({ cls := "NeverSeen$Ways", name := "lay", desc := "(I)V" } : Jvm.MethodName)), (598, Jvm.Cond.methodLink "NeverSeen$Ways" (33 : Nat) ({ cls := "NeverSeen$Ways", name := "nextRoom", desc := "(III)I" } : Jvm.MethodName)), (599, Jvm.Cond.methodLink "NeverSeen$Day" (81 : Nat) ({ cls := "java/lang/System", name := "arraycopy", desc := "(Ljava/lang/Object;ILjava/lang/Object;II)V" } : Jvm.MethodName)), (600, Jvm.Cond.methodLink "NeverSeen$Day" (68 : Nat) ({ cls := "NeverSeen$Day", name := "pass", desc := "(I)V" } : Jvm.MethodName)), (602, Jvm.Cond.selects "NeverSeen$Day" ({ cls := "NeverSeen$Day", name := "pass", desc := "(I)V" } : Jvm.MethodName) ({ cls := "NeverSeen$Day", name := "pass", desc := "(I)V" } : Jvm.MethodName)), (604, Jvm.Cond.methodLink "NeverSeen$Day" (105 : Nat) ({ cls := "NeverSeen$House", name := "masterIn", desc := "(I)I" } : Jvm.MethodName)), (605, Jvm.Cond.methodLink "NeverSeen$Day" (109 : Nat) ({ cls := "NeverSeen$Day", name := "turn", desc := "(III)V" } : Jvm.MethodName)), (609, Jvm.Cond.methodLink "NeverSeen$Day" (117 : Nat) ({ cls := "NeverSeen$Maid", name := "roomListed", desc := "(I)I" } : Jvm.MethodName)), (610, Jvm.Cond.methodLink "NeverSeen$Day" (120 : Nat) ({ cls := "NeverSeen$Day", name := "tells", desc := "(IIII)I" } : Jvm.MethodName)), (614, Jvm.Cond.methodLink "NeverSeen$Day" (146 : Nat) ({ cls := "NeverSeen$Day", name := "othersWith", desc := "(I)I" } : Jvm.MethodName)), (618, Jvm.Cond.methodLink "NeverSeen$Day" (152 : Nat) ({ cls := "NeverSeen$Wording", name := "value", desc := "(I[I[I)I" } : Jvm.MethodName)), (620, Jvm.Cond.selects "NeverSeen$Wording" ({ cls := "NeverSeen$Wording", name := "value", desc := "(I[I[I)I" } : Jvm.MethodName) ({ cls := "NeverSeen$Wording", name := "value", desc := "(I[I[I)I" } : Jvm.MethodName)), (622, Jvm.Cond.methodLink "NeverSeen$Wording" (24 : Nat) ({ cls := "NeverSeen$Wording", name := "joined", desc := "(III)I" } : Jvm.MethodName)), (623, Jvm.Cond.static ({ cls := "NeverSeen$Wording", name := "joined", desc := "(III)I" } : Jvm.MethodName)), (625, Jvm.Cond.methodLink "NeverSeen$Day" (158 : Nat) ({ cls := "java/lang/Math", name := "min", desc := "(II)I" } : Jvm.MethodName)), (626, Jvm.Cond.methodLink "NeverSeen$Day" (127 : Nat) ({ cls := "java/lang/Math", name := "max", desc := "(II)I" } : Jvm.MethodName)), (629, Jvm.Cond.methodLink "NeverSeen$Day" (124 : Nat) ({ cls := "NeverSeen$Maid", name := "works", desc := "(I)I" } : Jvm.MethodName)), (631, Jvm.Cond.selects "NeverSeen$Maid" ({ cls := "NeverSeen$Maid", name := "works", desc := "(I)I" } : Jvm.MethodName) ({ cls := "NeverSeen$Maid", name := "works", desc := "(I)I" } : Jvm.MethodName)), (633, Jvm.Cond.methodLink "NeverSeen$Maid" (41 : Nat) ({ cls := "java/lang/Math", name := "max", desc := "(II)I" } : Jvm.MethodName)), (634, Jvm.Cond.methodLink "NeverSeen$Day" (133 : Nat) ({ cls := "NeverSeen$Ways", name := "nextLaid", desc := "(II)I" } : Jvm.MethodName)), (636, Jvm.Cond.selects "NeverSeen$Ways" ({ cls := "NeverSeen$Ways", name := "nextLaid", desc := "(II)I" } : Jvm.MethodName) ({ cls := "NeverSeen$Ways", name := "nextLaid", desc := "(II)I" } : Jvm.MethodName)), (639, Jvm.Cond.methodLink "NeverSeen$Day" (136 : Nat) ({ cls := "NeverSeen$Maid", name := "dares", desc := "(I)Z" } : Jvm.MethodName)), (641, Jvm.Cond.selects "NeverSeen$Maid" ({ cls := "NeverSeen$Maid", name := "dares", desc := "(I)Z" } : Jvm.MethodName) ({ cls := "NeverSeen$Maid", name := "dares", desc := "(I)Z" } : Jvm.MethodName)), (643, Jvm.Cond.methodLink "NeverSeen$Day" (140 : Nat) ({ cls := "NeverSeen$Maid", name := "takes", desc := "(I)I" } : Jvm.MethodName)), (645, Jvm.Cond.selects "NeverSeen$Maid" ({ cls := "NeverSeen$Maid", name := "takes", desc := "(I)I" } : Jvm.MethodName) ({ cls := "NeverSeen$Maid", name := "takes", desc := "(I)I" } : Jvm.MethodName))]
theorem wl8_ok : wq wl8 := (by decide +kernel : wl8.all wqb = true)
def wl9 : List (Nat × Cond) := [(647, Jvm.Cond.methodLink "NeverSeen$Day" (113 : Nat) ({ cls := "NeverSeen$Day", name := "isAllDone", desc := "()Z" } : Jvm.MethodName)), (651, Jvm.Cond.methodLink "NeverSeen" (181 : Nat) ({ cls := "NeverSeen$Day", name := "ofMaid", desc := "(II)I" } : Jvm.MethodName)), (653, Jvm.Cond.selects "NeverSeen$Day" ({ cls := "NeverSeen$Day", name := "ofMaid", desc := "(II)I" } : Jvm.MethodName) ({ cls := "NeverSeen$Day", name := "ofMaid", desc := "(II)I" } : Jvm.MethodName)), (656, Jvm.Cond.methodLink "NeverSeen" (184 : Nat) ({ cls := "NeverSeen$Day", name := "workLeft", desc := "()I" } : Jvm.MethodName)), (658, Jvm.Cond.selects "NeverSeen$Day" ({ cls := "NeverSeen$Day", name := "workLeft", desc := "()I" } : Jvm.MethodName) ({ cls := "NeverSeen$Day", name := "workLeft", desc := "()I" } : Jvm.MethodName)), (661, Jvm.Cond.static ({ cls := "NeverSeen", name := "sum", desc := "([I)I" } : Jvm.MethodName)), (663, Jvm.Cond.methodLink "NeverSeen" (193 : Nat) ({ cls := "NeverSeen$Day", name := "dear", desc := "()I" } : Jvm.MethodName)), (665, Jvm.Cond.selects "NeverSeen$Day" ({ cls := "NeverSeen$Day", name := "dear", desc := "()I" } : Jvm.MethodName) ({ cls := "NeverSeen$Day", name := "dear", desc := "()I" } : Jvm.MethodName)), (671, Jvm.Cond.methodLink "NeverSeen" (196 : Nat) ({ cls := "NeverSeen", name := "firstOrder", desc := "(I)I" } : Jvm.MethodName)), (675, Jvm.Cond.methodLink "NeverSeen" (199 : Nat) ({ cls := "NeverSeen$House", name := "become", desc := "(LNeverSeen$House;)V" } : Jvm.MethodName)), (677, Jvm.Cond.selects "NeverSeen$House" ({ cls := "NeverSeen$House", name := "become", desc := "(LNeverSeen$House;)V" } : Jvm.MethodName) ({ cls := "NeverSeen$House", name := "become", desc := "(LNeverSeen$House;)V" } : Jvm.MethodName)), (679, Jvm.Cond.methodLink "NeverSeen$House" (41 : Nat) ({ cls := "java/lang/System", name := "arraycopy", desc := "(Ljava/lang/Object;ILjava/lang/Object;II)V" } : Jvm.MethodName)), (680, Jvm.Cond.methodLink "NeverSeen$House" (47 : Nat) ({ cls := "NeverSeen$Maid", name := "become", desc := "(LNeverSeen$Maid;)V" } : Jvm.MethodName)), (682, Jvm.Cond.selects "NeverSeen$Maid" ({ cls := "NeverSeen$Maid", name := "become", desc := "(LNeverSeen$Maid;)V" } : Jvm.MethodName) ({ cls := "NeverSeen$Maid", name := "become", desc := "(LNeverSeen$Maid;)V" } : Jvm.MethodName)), (684, Jvm.Cond.methodLink "NeverSeen$Maid" (28 : Nat) ({ cls := "java/lang/System", name := "arraycopy", desc := "(Ljava/lang/Object;ILjava/lang/Object;II)V" } : Jvm.MethodName)), (685, Jvm.Cond.methodLink "NeverSeen" (203 : Nat) ({ cls := "NeverSeen", name := "nextOrder", desc := "(I)V" } : Jvm.MethodName)), (689, Jvm.Cond.methodLink "NeverSeen" (207 : Nat) ({ cls := "NeverSeen", name := "swapPlaces", desc := "(II)V" } : Jvm.MethodName)), (701, Jvm.Cond.methodLink "NeverSeen" (211 : Nat) ({ cls := "NeverSeen$House", name := "leaveOut", desc := "(I)V" } : Jvm.MethodName)), (703, Jvm.Cond.selects "NeverSeen$House" ({ cls := "NeverSeen$House", name := "leaveOut", desc := "(I)V" } : Jvm.MethodName) ({ cls := "NeverSeen$House", name := "leaveOut", desc := "(I)V" } : Jvm.MethodName)), (713, Jvm.Cond.methodLink "NeverSeen" (214 : Nat) ({ cls := "NeverSeen$Sheet", name := "isMissing", desc := "()Z" } : Jvm.MethodName)), (715, Jvm.Cond.selects "NeverSeen$Sheet" ({ cls := "NeverSeen$Sheet", name := "isMissing", desc := "()Z" } : Jvm.MethodName) ({ cls := "NeverSeen$Sheet", name := "isMissing", desc := "()Z" } : Jvm.MethodName)), (717, Jvm.Cond.methodLink "NeverSeen" (218 : Nat) ({ cls := "NeverSeen", name := "isTold", desc := "(LNeverSeen$Sheet;I)Z" } : Jvm.MethodName)), (725, Jvm.Cond.methodLink "NeverSeen" (226 : Nat) ({ cls := "NeverSeen", name := "doorChoices", desc := "(I)I" } : Jvm.MethodName)), (729, Jvm.Cond.methodLink "NeverSeen" (229 : Nat) ({ cls := "NeverSeen", name := "isSeenFromDoor", desc := "(LNeverSeen$Sheet;I)Z" } : Jvm.MethodName)), (733, Jvm.Cond.methodLink "NeverSeen" (232 : Nat) ({ cls := "NeverSeen$Day", name := "start", desc := "(LNeverSeen$House;)V" } : Jvm.MethodName)), (734, Jvm.Cond.methodLink "NeverSeen" (235 : Nat) ({ cls := "NeverSeen$Day", name := "pass", desc := "(I)V" } : Jvm.MethodName)), (739, Jvm.Cond.methodLink "NeverSeen" (241 : Nat) ({ cls := "NeverSeen$Sheet", name := "become", desc := "(II)V" } : Jvm.MethodName)), (741, Jvm.Cond.selects "NeverSeen$Sheet" ({ cls := "NeverSeen$Sheet", name := "become", desc := "(II)V" } : Jvm.MethodName) ({ cls := "NeverSeen$Sheet", name := "become", desc := "(II)V" } : Jvm.MethodName)), (743, Jvm.Cond.methodLink "NeverSeen" (243 : Nat) ({ cls := "NeverSeen$Sheet", name := "put", desc := "(II)V" } : Jvm.MethodName)), (745, Jvm.Cond.selects "NeverSeen$Sheet" ({ cls := "NeverSeen$Sheet", name := "put", desc := "(II)V" } : Jvm.MethodName) ({ cls := "NeverSeen$Sheet", name := "put", desc := "(II)V" } : Jvm.MethodName))]
theorem wl9_ok : wq wl9 := (by decide +kernel : wl9.all wqb = true)
def wl10 : List (Nat × Cond) := [(752, Jvm.Cond.methodLink "NeverSeen" (245 : Nat) ({ cls := "NeverSeen$House", name := "draw", desc := "(I)V" } : Jvm.MethodName)), (754, Jvm.Cond.selects "NeverSeen$House" ({ cls := "NeverSeen$House", name := "draw", desc := "(I)V" } : Jvm.MethodName) ({ cls := "NeverSeen$House", name := "draw", desc := "(I)V" } : Jvm.MethodName)), (756, Jvm.Cond.constant "NeverSeen$House" (61 : Nat) (1103515245 : Int32)), (761, Jvm.Cond.constantLong "NeverSeen" (248 : Nat) (-4611686018427387904 : Int64)), (762, Jvm.Cond.methodLink "NeverSeen" (250 : Nat) ({ cls := "NeverSeen$Day", name := "isAnySeen", desc := "()Z" } : Jvm.MethodName)), (764, Jvm.Cond.selects "NeverSeen$Day" ({ cls := "NeverSeen$Day", name := "isAnySeen", desc := "()Z" } : Jvm.MethodName) ({ cls := "NeverSeen$Day", name := "isAnySeen", desc := "()Z" } : Jvm.MethodName)), (766, Jvm.Cond.methodLink "NeverSeen" (253 : Nat) ({ cls := "NeverSeen", name := "inLowestTerms", desc := "(III)I" } : Jvm.MethodName)), (767, Jvm.Cond.static ({ cls := "NeverSeen", name := "inLowestTerms", desc := "(III)I" } : Jvm.MethodName)), (781, Jvm.Cond.methodLink "NeverSeen" (256 : Nat) ({ cls := "NeverSeen", name := "sum", desc := "([I)I" } : Jvm.MethodName)), (794, Jvm.Cond.methodLink "NeverSeen" (263 : Nat) ({ cls := "NeverSeen$Sheet", name := "has", desc := "(II)Z" } : Jvm.MethodName)), (796, Jvm.Cond.selects "NeverSeen$Sheet" ({ cls := "NeverSeen$Sheet", name := "has", desc := "(II)Z" } : Jvm.MethodName) ({ cls := "NeverSeen$Sheet", name := "has", desc := "(II)Z" } : Jvm.MethodName)), (798, Jvm.Cond.methodLink "NeverSeen" (266 : Nat) ({ cls := "java/lang/System", name := "arraycopy", desc := "(Ljava/lang/Object;ILjava/lang/Object;II)V" } : Jvm.MethodName)), (803, Jvm.Cond.methodLink "NeverSeen" (272 : Nat) ({ cls := "NeverSeen", name := "maid", desc := "(III)I" } : Jvm.MethodName)), (808, Jvm.Cond.methodLink "NeverSeen" (274 : Nat) ({ cls := "NeverSeen$Maid", name := "isOfKind", desc := "(I)Z" } : Jvm.MethodName)), (810, Jvm.Cond.selects "NeverSeen$Maid" ({ cls := "NeverSeen$Maid", name := "isOfKind", desc := "(I)Z" } : Jvm.MethodName) ({ cls := "NeverSeen$Maid", name := "isOfKind", desc := "(I)Z" } : Jvm.MethodName)), (824, Jvm.Cond.fieldLink "NeverSeenModel" (13 : Nat) "NeverSeenModel" "texts" "[I"), (825, Jvm.Cond.fieldLink "NeverSeenModel" (17 : Nat) "NeverSeenModel" "textSize" "[I"), (826, Jvm.Cond.fieldLink "NeverSeenModel" (109 : Nat) "NeverSeenModel" "textCount" "I"), (827, Jvm.Cond.fieldLink "NeverSeenModel" (297 : Nat) "NeverSeenModel" "rule" "I"), (828, Jvm.Cond.fieldLink "NeverSeenModel" (20 : Nat) "NeverSeenModel" "tape" "[I"), (829, Jvm.Cond.fieldLink "NeverSeenModel" (183 : Nat) "NeverSeenModel" "taped" "I"), (830, Jvm.Cond.fieldLink "NeverSeenModel" (23 : Nat) "NeverSeenModel" "stairWays" "I"), (831, Jvm.Cond.fieldLink "NeverSeenModel" (26 : Nat) "NeverSeenModel" "works" "[I"), (832, Jvm.Cond.fieldLink "NeverSeenModel" (29 : Nat) "NeverSeenModel" "stayRoom" "[I"), (833, Jvm.Cond.fieldLink "NeverSeenModel" (32 : Nat) "NeverSeenModel" "stayLong" "[I"), (834, Jvm.Cond.fieldLink "NeverSeenModel" (121 : Nat) "NeverSeenModel" "stayMany" "I"), (835, Jvm.Cond.fieldLink "NeverSeenModel" (35 : Nat) "NeverSeenModel" "kinds" "[I"), (836, Jvm.Cond.fieldLink "NeverSeenModel" (38 : Nat) "NeverSeenModel" "numbers" "[I"), (837, Jvm.Cond.fieldLink "NeverSeenModel" (41 : Nat) "NeverSeenModel" "begins" "[I"), (838, Jvm.Cond.fieldLink "NeverSeenModel" (44 : Nat) "NeverSeenModel" "lists" "[I")]
theorem wl10_ok : wq wl10 := (by decide +kernel : wl10.all wqb = true)
def wl11 : List (Nat × Cond) := [(839, Jvm.Cond.fieldLink "NeverSeenModel" (47 : Nat) "NeverSeenModel" "listMany" "[I"), (840, Jvm.Cond.fieldLink "NeverSeenModel" (118 : Nat) "NeverSeenModel" "maidMany" "I"), (841, Jvm.Cond.fieldLink "NeverSeenModel" (50 : Nat) "NeverSeenModel" "absent" "I"), (842, Jvm.Cond.fieldLink "NeverSeenModel" (53 : Nat) "NeverSeenModel" "farTable" "[I"), (843, Jvm.Cond.fieldLink "NeverSeenModel" (173 : Nat) "NeverSeenModel" "longestAt" "I"), (844, Jvm.Cond.fieldLink "NeverSeenModel" (239 : Nat) "NeverSeenModel" "ofMinute" "I"), (845, Jvm.Cond.fieldLink "NeverSeenModel" (242 : Nat) "NeverSeenModel" "ofRoom" "I"), (846, Jvm.Cond.fieldLink "NeverSeenModel" (245 : Nat) "NeverSeenModel" "ofLeft" "I"), (847, Jvm.Cond.fieldLink "NeverSeenModel" (248 : Nat) "NeverSeenModel" "ofNumber" "I"), (848, Jvm.Cond.fieldLink "NeverSeenModel" (251 : Nat) "NeverSeenModel" "ofBeside" "I"), (849, Jvm.Cond.fieldLink "NeverSeenModel" (254 : Nat) "NeverSeenModel" "ofMaids" "I"), (850, Jvm.Cond.fieldLink "NeverSeenModel" (189 : Nat) "NeverSeenModel" "from" "I"), (851, Jvm.Cond.fieldLink "NeverSeenModel" (186 : Nat) "NeverSeenModel" "size" "I"), (852, Jvm.Cond.fieldLink "NeverSeenModel" (192 : Nat) "NeverSeenModel" "here" "I"), (853, Jvm.Cond.fieldLink "NeverSeenModel" (201 : Nat) "NeverSeenModel" "token" "I"), (854, Jvm.Cond.fieldLink "NeverSeenModel" (198 : Nat) "NeverSeenModel" "tokenAt" "I"), (855, Jvm.Cond.fieldLink "NeverSeenModel" (212 : Nat) "NeverSeenModel" "tokenWorth" "J"), (856, Jvm.Cond.fieldLink "NeverSeenModel" (226 : Nat) "NeverSeenModel" "open" "I"), (857, Jvm.Cond.fieldLink "NeverSeenModel" (216 : Nat) "NeverSeenModel" "bad" "Z"), (858, Jvm.Cond.fieldLink "NeverSeenModel" (220 : Nat) "NeverSeenModel" "fault" "I"), (859, Jvm.Cond.fieldLink "NeverSeenModel" (56 : Nat) "NeverSeenModel" "roomNow" "[I"), (860, Jvm.Cond.fieldLink "NeverSeenModel" (59 : Nat) "NeverSeenModel" "wayLeft" "[I"), (861, Jvm.Cond.fieldLink "NeverSeenModel" (62 : Nat) "NeverSeenModel" "wayTo" "[I"), (862, Jvm.Cond.fieldLink "NeverSeenModel" (65 : Nat) "NeverSeenModel" "listAt" "[I"), (863, Jvm.Cond.fieldLink "NeverSeenModel" (68 : Nat) "NeverSeenModel" "seenFor" "[I"), (864, Jvm.Cond.fieldLink "NeverSeenModel" (71 : Nat) "NeverSeenModel" "waited" "[I"), (865, Jvm.Cond.fieldLink "NeverSeenModel" (74 : Nat) "NeverSeenModel" "leftNow" "[I"), (866, Jvm.Cond.fieldLink "NeverSeenModel" (304 : Nat) "NeverSeenModel" "shillings" "I"), (867, Jvm.Cond.fieldLink "NeverSeenModel" (307 : Nat) "NeverSeenModel" "ready" "I"), (868, Jvm.Cond.fieldLink "NeverSeenModel" (77 : Nat) "NeverSeenModel" "listWas" "[I")]
theorem wl11_ok : wq wl11 := (by decide +kernel : wl11.all wqb = true)
def wl12 : List (Nat × Cond) := [(869, Jvm.Cond.fieldLink "NeverSeenModel" (351 : Nat) "NeverSeenModel" "bestDear" "I"), (870, Jvm.Cond.fieldLink "NeverSeenModel" (348 : Nat) "NeverSeenModel" "bestDigits" "I"), (871, Jvm.Cond.fieldLink "NeverSeenModel" (80 : Nat) "NeverSeenModel" "longWas" "[I"), (872, Jvm.Cond.fieldLink "NeverSeenModel" (83 : Nat) "NeverSeenModel" "houseKept" "[I"), (873, Jvm.Cond.fieldLink "NeverSeenModel" (86 : Nat) "NeverSeenModel" "maidsKept" "[I"), (874, Jvm.Cond.fieldLink "NeverSeenModel" (89 : Nat) "NeverSeenModel" "manyKept" "I"), (875, Jvm.Cond.fieldLink "NeverSeenModel" (381 : Nat) "NeverSeenModel" "stairsKept" "I"), (876, Jvm.Cond.fieldLink "NeverSeenModel" (384 : Nat) "NeverSeenModel" "staysKept" "I"), (877, Jvm.Cond.fieldLink "NeverSeenModel" (387 : Nat) "NeverSeenModel" "ruleKept" "I"), (878, Jvm.Cond.fieldLink "NeverSeenModel" (92 : Nat) "NeverSeenModel" "isThere" "[Z"), (879, Jvm.Cond.fieldLink "NeverSeenModel" (96 : Nat) "NeverSeenModel" "sorts" "[I"), (880, Jvm.Cond.fieldLink "NeverSeenModel" (99 : Nat) "NeverSeenModel" "sheetSize" "[I"), (881, Jvm.Cond.fieldLink "NeverSeenModel" (102 : Nat) "NeverSeenModel" "items" "[I"), (1006, Jvm.Cond.constantLong "NeverSeenModel" (134 : Nat) (5 : Int64)), (1007, Jvm.Cond.methodLink "NeverSeenModel" (114 : Nat) ({ cls := "NeverSeenModel", name := "in", desc := "(JJJ)Z" } : Jvm.MethodName)), (1008, Jvm.Cond.static ({ cls := "NeverSeenModel", name := "in", desc := "(JJJ)Z" } : Jvm.MethodName)), (1010, Jvm.Cond.methodLink "NeverSeenModel" (136 : Nat) ({ cls := "NeverSeenModel", name := "isOf", desc := "(II)Z" } : Jvm.MethodName)), (1014, Jvm.Cond.methodLink "NeverSeenModel" (124 : Nat) ({ cls := "NeverSeenModel", name := "isRoom", desc := "(I)Z" } : Jvm.MethodName)), (1015, Jvm.Cond.static ({ cls := "NeverSeenModel", name := "isRoom", desc := "(I)Z" } : Jvm.MethodName)), (1017, Jvm.Cond.constantLong "NeverSeenModel" (112 : Nat) (7 : Int64)), (1018, Jvm.Cond.methodLink "NeverSeenModel" (128 : Nat) ({ cls := "NeverSeenModel", name := "isStay", desc := "(I)Z" } : Jvm.MethodName)), (1022, Jvm.Cond.methodLink "NeverSeenModel" (131 : Nat) ({ cls := "NeverSeenModel", name := "isMaid", desc := "(I)Z" } : Jvm.MethodName)), (1026, Jvm.Cond.constantLong "NeverSeenModel" (140 : Nat) (3 : Int64)), (1027, Jvm.Cond.constantLong "NeverSeenModel" (142 : Nat) (99 : Int64)), (1028, Jvm.Cond.constantLong "NeverSeenModel" (144 : Nat) (50 : Int64)), (1029, Jvm.Cond.constantLong "NeverSeenModel" (146 : Nat) (9 : Int64)), (1030, Jvm.Cond.methodLink "NeverSeenModel" (148 : Nat) ({ cls := "NeverSeenModel", name := "told", desc := "(II)I" } : Jvm.MethodName)), (1032, Jvm.Cond.selects "NeverSeenModel" ({ cls := "NeverSeenModel", name := "told", desc := "(II)I" } : Jvm.MethodName) ({ cls := "NeverSeenModel", name := "told", desc := "(II)I" } : Jvm.MethodName)), (1034, Jvm.Cond.constantLong "NeverSeenModel" (156 : Nat) (10 : Int64)), (1035, Jvm.Cond.constantLong "NeverSeenModel" (158 : Nat) (14 : Int64))]
theorem wl12_ok : wq wl12 := (by decide +kernel : wl12.all wqb = true)
def wl13 : List (Nat × Cond) := [(1036, Jvm.Cond.methodLink "NeverSeenModel" (152 : Nat) ({ cls := "NeverSeenModel", name := "lays", desc := "(III)V" } : Jvm.MethodName)), (1046, Jvm.Cond.selects "NeverSeenModel" ({ cls := "NeverSeenModel", name := "maid", desc := "(III)I" } : Jvm.MethodName) ({ cls := "NeverSeenModel", name := "maid", desc := "(III)I" } : Jvm.MethodName)), (1061, Jvm.Cond.methodLink "NeverSeenModel" (163 : Nat) ({ cls := "NeverSeenModel", name := "gathers", desc := "()V" } : Jvm.MethodName)), (1065, Jvm.Cond.methodLink "NeverSeenModel" (160 : Nat) ({ cls := "NeverSeenModel", name := "isBeside", desc := "(II)Z" } : Jvm.MethodName)), (1069, Jvm.Cond.methodLink "NeverSeenModel" (166 : Nat) ({ cls := "NeverSeenModel", name := "nextTo", desc := "(II)I" } : Jvm.MethodName)), (1077, Jvm.Cond.methodLink "NeverSeenModel" (169 : Nat) ({ cls := "NeverSeenModel", name := "masterIn", desc := "(I)I" } : Jvm.MethodName)), (1089, Jvm.Cond.methodLink "NeverSeenModel" (176 : Nat) ({ cls := "NeverSeenModel", name := "longestOf", desc := "(I)I" } : Jvm.MethodName)), (1097, Jvm.Cond.constantLong "NeverSeenModel" (179 : Nat) (100 : Int64)), (1102, Jvm.Cond.constantLong "NeverSeenModel" (181 : Nat) (255 : Int64)), (1107, Jvm.Cond.methodLink "NeverSeenModel" (294 : Nat) ({ cls := "NeverSeenModel", name := "read", desc := "(II)I" } : Jvm.MethodName)), (1111, Jvm.Cond.methodLink "NeverSeenModel" (232 : Nat) ({ cls := "NeverSeenModel", name := "next", desc := "()V" } : Jvm.MethodName)), (1115, Jvm.Cond.methodLink "NeverSeenModel" (195 : Nat) ({ cls := "NeverSeenModel", name := "byteAt", desc := "(I)I" } : Jvm.MethodName)), (1119, Jvm.Cond.constantLong "NeverSeenModel" (204 : Nat) (97 : Int64)), (1120, Jvm.Cond.constantLong "NeverSeenModel" (206 : Nat) (122 : Int64)), (1121, Jvm.Cond.constantLong "NeverSeenModel" (208 : Nat) (48 : Int64)), (1122, Jvm.Cond.constantLong "NeverSeenModel" (210 : Nat) (57 : Int64)), (1123, Jvm.Cond.methodLink "NeverSeenModel" (235 : Nat) ({ cls := "NeverSeenModel", name := "isWord", desc := "(IIIIIIII)Z" } : Jvm.MethodName)), (1127, Jvm.Cond.methodLink "NeverSeenModel" (223 : Nat) ({ cls := "NeverSeenModel", name := "isLetter", desc := "(II)Z" } : Jvm.MethodName)), (1131, Jvm.Cond.methodLink "NeverSeenModel" (290 : Nat) ({ cls := "NeverSeenModel", name := "part", desc := "(Z)I" } : Jvm.MethodName)), (1135, Jvm.Cond.methodLink "NeverSeenModel" (229 : Nat) ({ cls := "NeverSeenModel", name := "fail", desc := "()V" } : Jvm.MethodName)), (1139, Jvm.Cond.methodLink "NeverSeenModel" (268 : Nat) ({ cls := "NeverSeenModel", name := "either", desc := "()I" } : Jvm.MethodName)), (1143, Jvm.Cond.methodLink "NeverSeenModel" (287 : Nat) ({ cls := "NeverSeenModel", name := "both", desc := "()I" } : Jvm.MethodName)), (1147, Jvm.Cond.methodLink "NeverSeenModel" (279 : Nat) ({ cls := "NeverSeenModel", name := "not", desc := "()I" } : Jvm.MethodName)), (1151, Jvm.Cond.methodLink "NeverSeenModel" (260 : Nat) ({ cls := "NeverSeenModel", name := "opens", desc := "()Z" } : Jvm.MethodName)), (1155, Jvm.Cond.methodLink "NeverSeenModel" (282 : Nat) ({ cls := "NeverSeenModel", name := "added", desc := "()I" } : Jvm.MethodName)), (1159, Jvm.Cond.methodLink "NeverSeenModel" (274 : Nat) ({ cls := "NeverSeenModel", name := "term", desc := "()I" } : Jvm.MethodName)), (1163, Jvm.Cond.methodLink "NeverSeenModel" (264 : Nat) ({ cls := "NeverSeenModel", name := "atom", desc := "()I" } : Jvm.MethodName)), (1167, Jvm.Cond.methodLink "NeverSeenModel" (257 : Nat) ({ cls := "NeverSeenModel", name := "isSign", desc := "(I)Z" } : Jvm.MethodName)), (1171, Jvm.Cond.methodLink "NeverSeenModel" (271 : Nat) ({ cls := "NeverSeenModel", name := "name", desc := "()I" } : Jvm.MethodName)), (1175, Jvm.Cond.constantLong "NeverSeenModel" (277 : Nat) (43 : Int64))]
theorem wl13_ok : wq wl13 := (by decide +kernel : wl13.all wqb = true)
def wl14 : List (Nat × Cond) := [(1176, Jvm.Cond.constantLong "NeverSeenModel" (285 : Nat) (60 : Int64)), (1185, Jvm.Cond.constantLong "NeverSeenModel" (343 : Nat) (49 : Int64)), (1186, Jvm.Cond.methodLink "NeverSeenModel" (337 : Nat) ({ cls := "NeverSeenModel", name := "livesAll", desc := "(I)V" } : Jvm.MethodName)), (1190, Jvm.Cond.methodLink "NeverSeenModel" (330 : Nat) ({ cls := "NeverSeenModel", name := "startsOff", desc := "()V" } : Jvm.MethodName)), (1194, Jvm.Cond.methodLink "NeverSeenModel" (333 : Nat) ({ cls := "NeverSeenModel", name := "lives", desc := "(I)V" } : Jvm.MethodName)), (1198, Jvm.Cond.methodLink "NeverSeenModel" (323 : Nat) ({ cls := "NeverSeenModel", name := "acts", desc := "(II)V" } : Jvm.MethodName)), (1202, Jvm.Cond.methodLink "NeverSeenModel" (310 : Nat) ({ cls := "NeverSeenModel", name := "aimOf", desc := "(I)I" } : Jvm.MethodName)), (1206, Jvm.Cond.methodLink "NeverSeenModel" (313 : Nat) ({ cls := "NeverSeenModel", name := "says", desc := "(IIII)I" } : Jvm.MethodName)), (1210, Jvm.Cond.methodLink "NeverSeenModel" (300 : Nat) ({ cls := "NeverSeenModel", name := "within", desc := "(III)I" } : Jvm.MethodName)), (1211, Jvm.Cond.static ({ cls := "NeverSeenModel", name := "within", desc := "(III)I" } : Jvm.MethodName)), (1213, Jvm.Cond.methodLink "NeverSeenModel" (317 : Nat) ({ cls := "NeverSeenModel", name := "worksOf", desc := "(II)I" } : Jvm.MethodName)), (1217, Jvm.Cond.methodLink "NeverSeenModel" (320 : Nat) ({ cls := "NeverSeenModel", name := "takesOf", desc := "(II)I" } : Jvm.MethodName)), (1221, Jvm.Cond.methodLink "NeverSeenModel" (327 : Nat) ({ cls := "NeverSeenModel", name := "isReady", desc := "()Z" } : Jvm.MethodName)), (1225, Jvm.Cond.methodLink "NeverSeenModel" (340 : Nat) ({ cls := "NeverSeenModel", name := "leftAll", desc := "()I" } : Jvm.MethodName)), (1233, Jvm.Cond.methodLink "NeverSeenModel" (354 : Nat) ({ cls := "NeverSeenModel", name := "orders", desc := "(III)V" } : Jvm.MethodName)), (1237, Jvm.Cond.methodLink "NeverSeenModel" (345 : Nat) ({ cls := "NeverSeenModel", name := "dear", desc := "()I" } : Jvm.MethodName)), (1257, Jvm.Cond.methodLink "NeverSeenModel" (357 : Nat) ({ cls := "NeverSeenModel", name := "isSheet", desc := "(I)Z" } : Jvm.MethodName)), (1258, Jvm.Cond.static ({ cls := "NeverSeenModel", name := "isSheet", desc := "(I)Z" } : Jvm.MethodName)), (1264, Jvm.Cond.constantLong "NeverSeenModel" (360 : Nat) (4 : Int64)), (1265, Jvm.Cond.methodLink "NeverSeenModel" (362 : Nat) ({ cls := "NeverSeenModel", name := "isSo", desc := "(II)Z" } : Jvm.MethodName)), (1269, Jvm.Cond.methodLink "NeverSeenModel" (365 : Nat) ({ cls := "NeverSeenModel", name := "tries", desc := "(III)V" } : Jvm.MethodName)), (1277, Jvm.Cond.constantLong "NeverSeenModel" (368 : Nat) (40 : Int64)), (1278, Jvm.Cond.methodLink "NeverSeenModel" (370 : Nat) ({ cls := "NeverSeenModel", name := "sheet", desc := "(III)I" } : Jvm.MethodName)), (1280, Jvm.Cond.selects "NeverSeenModel" ({ cls := "NeverSeenModel", name := "sheet", desc := "(III)I" } : Jvm.MethodName) ({ cls := "NeverSeenModel", name := "sheet", desc := "(III)I" } : Jvm.MethodName)), (1282, Jvm.Cond.constantLong "NeverSeenModel" (392 : Nat) (-1 : Int64)), (1283, Jvm.Cond.constantLong "NeverSeenModel" (394 : Nat) (2 : Int64)), (1288, Jvm.Cond.methodLink "NeverSeenModel" (374 : Nat) ({ cls := "NeverSeenModel", name := "draws", desc := "(I)I" } : Jvm.MethodName)), (1292, Jvm.Cond.constant "NeverSeenModel" (373 : Nat) (1103515245 : Int32)), (1297, Jvm.Cond.constantLong "NeverSeenModel" (377 : Nat) (20 : Int64)), (1298, Jvm.Cond.constantLong "NeverSeenModel" (379 : Nat) (-4611686018427387904 : Int64))]
theorem wl14_ok : wq wl14 := (by decide +kernel : wl14.all wqb = true)
def wl15 : List (Nat × Cond) := [(1311, Jvm.Cond.constantLong "NeverSeenModel" (390 : Nat) (6 : Int64)), (1325, Jvm.Cond.methodLink "NeverSeenModel" (396 : Nat) ({ cls := "NeverSeenModel", name := "maid", desc := "(III)I" } : Jvm.MethodName)), (1330, Jvm.Cond.methodLink "NeverSeenModel" (399 : Nat) ({ cls := "NeverSeenModel", name := "over", desc := "(I)I" } : Jvm.MethodName)), (1331, Jvm.Cond.static ({ cls := "NeverSeenModel", name := "over", desc := "(I)I" } : Jvm.MethodName)), (1333, Jvm.Cond.fieldLink "java/lang/String" (9 : Nat) "java/lang/String" "value" "[B"), (1334, Jvm.Cond.fieldLink "java/lang/String" (15 : Nat) "java/lang/String" "coder" "B")]
theorem wl15_ok : wq wl15 := (by decide +kernel : wl15.all wqb = true)
theorem tbi1 {w : Cond} (h : w ∈ tables_1_1) : w ∈ lw_tbl := List.mem_append_right _ (List.mem_append_left _ h)
theorem tbi2 {w : Cond} (h : w ∈ tables_1_2) : w ∈ lw_tbl := List.mem_append_right _ (List.mem_append_right _ (List.mem_append_left _ h))
theorem tbi3 {w : Cond} (h : w ∈ tables_1_3) : w ∈ lw_tbl := List.mem_append_right _ (List.mem_append_right _ (List.mem_append_right _ (List.mem_append_left _ h)))
theorem tbi4 {w : Cond} (h : w ∈ tables_1_4) : w ∈ lw_tbl := List.mem_append_right _ (List.mem_append_right _ (List.mem_append_right _ (List.mem_append_right _ (List.mem_append_left _ h))))
theorem tbi5 {w : Cond} (h : w ∈ tables_1_5) : w ∈ lw_tbl := List.mem_append_right _ (List.mem_append_right _ (List.mem_append_right _ (List.mem_append_right _ (List.mem_append_right _ (List.mem_append_left _ h)))))
theorem tbi6 {w : Cond} (h : w ∈ tables_1_6) : w ∈ lw_tbl := List.mem_append_right _ (List.mem_append_right _ (List.mem_append_right _ (List.mem_append_right _ (List.mem_append_right _ (List.mem_append_right _ (h))))))
theorem ki_0 : Int32.ofInt (0) = (0 : Int32) := by decide +kernel
theorem kb_8 : (Int8.ofInt (8)).toInt32 = (8 : Int32) := by decide +kernel
theorem ki_1 : Int32.ofInt (1) = (1 : Int32) := by decide +kernel
theorem kb_m6 : (Int8.ofInt (-6)).toInt32 = (-6 : Int32) := by decide +kernel
theorem kb_m12 : (Int8.ofInt (-12)).toInt32 = (-12 : Int32) := by decide +kernel
theorem kb_m11 : (Int8.ofInt (-11)).toInt32 = (-11 : Int32) := by decide +kernel
theorem ki_2 : Int32.ofInt (2) = (2 : Int32) := by decide +kernel
theorem ki_m1 : Int32.ofInt (-1) = (-1 : Int32) := by decide +kernel
theorem ki_3 : Int32.ofInt (3) = (3 : Int32) := by decide +kernel
theorem ki_4 : Int32.ofInt (4) = (4 : Int32) := by decide +kernel
theorem ki_5 : Int32.ofInt (5) = (5 : Int32) := by decide +kernel
theorem kb_99 : (Int8.ofInt (99)).toInt32 = (99 : Int32) := by decide +kernel
theorem kb_9 : (Int8.ofInt (9)).toInt32 = (9 : Int32) := by decide +kernel
theorem kb_6 : (Int8.ofInt (6)).toInt32 = (6 : Int32) := by decide +kernel
theorem kb_64 : (Int8.ofInt (64)).toInt32 = (64 : Int32) := by decide +kernel
theorem kb_m2 : (Int8.ofInt (-2)).toInt32 = (-2 : Int32) := by decide +kernel
theorem ks_12345 : (Int16.ofInt (12345)).toInt32 = (12345 : Int32) := by decide +kernel
theorem kb_50 : (Int8.ofInt (50)).toInt32 = (50 : Int32) := by decide +kernel
theorem ks_160 : (Int16.ofInt (160)).toInt32 = (160 : Int32) := by decide +kernel
theorem kb_48 : (Int8.ofInt (48)).toInt32 = (48 : Int32) := by decide +kernel
theorem kb_57 : (Int8.ofInt (57)).toInt32 = (57 : Int32) := by decide +kernel
theorem kb_97 : (Int8.ofInt (97)).toInt32 = (97 : Int32) := by decide +kernel
theorem kb_122 : (Int8.ofInt (122)).toInt32 = (122 : Int32) := by decide +kernel
theorem kb_40 : (Int8.ofInt (40)).toInt32 = (40 : Int32) := by decide +kernel
theorem kb_41 : (Int8.ofInt (41)).toInt32 = (41 : Int32) := by decide +kernel
theorem kb_59 : (Int8.ofInt (59)).toInt32 = (59 : Int32) := by decide +kernel
theorem kb_43 : (Int8.ofInt (43)).toInt32 = (43 : Int32) := by decide +kernel
theorem kb_45 : (Int8.ofInt (45)).toInt32 = (45 : Int32) := by decide +kernel
theorem kb_42 : (Int8.ofInt (42)).toInt32 = (42 : Int32) := by decide +kernel
theorem kb_60 : (Int8.ofInt (60)).toInt32 = (60 : Int32) := by decide +kernel
theorem kb_61 : (Int8.ofInt (61)).toInt32 = (61 : Int32) := by decide +kernel
theorem kb_14 : (Int8.ofInt (14)).toInt32 = (14 : Int32) := by decide +kernel
theorem kb_12 : (Int8.ofInt (12)).toInt32 = (12 : Int32) := by decide +kernel
theorem kb_10 : (Int8.ofInt (10)).toInt32 = (10 : Int32) := by decide +kernel
theorem kb_32 : (Int8.ofInt (32)).toInt32 = (32 : Int32) := by decide +kernel
theorem kb_13 : (Int8.ofInt (13)).toInt32 = (13 : Int32) := by decide +kernel
theorem kb_m42 : (Int8.ofInt (-42)).toInt32 = (-42 : Int32) := by decide +kernel
theorem kb_11 : (Int8.ofInt (11)).toInt32 = (11 : Int32) := by decide +kernel
theorem kb_m10 : (Int8.ofInt (-10)).toInt32 = (-10 : Int32) := by decide +kernel
theorem kb_m9 : (Int8.ofInt (-9)).toInt32 = (-9 : Int32) := by decide +kernel
theorem kb_m4 : (Int8.ofInt (-4)).toInt32 = (-4 : Int32) := by decide +kernel
theorem ks_256 : (Int16.ofInt (256)).toInt32 = (256 : Int32) := by decide +kernel
theorem kb_m100 : (Int8.ofInt (-100)).toInt32 = (-100 : Int32) := by decide +kernel
theorem kb_100 : (Int8.ofInt (100)).toInt32 = (100 : Int32) := by decide +kernel
theorem kb_20 : (Int8.ofInt (20)).toInt32 = (20 : Int32) := by decide +kernel
theorem kb_m3 : (Int8.ofInt (-3)).toInt32 = (-3 : Int32) := by decide +kernel
theorem kb_m14 : (Int8.ofInt (-14)).toInt32 = (-14 : Int32) := by decide +kernel
theorem kb_m13 : (Int8.ofInt (-13)).toInt32 = (-13 : Int32) := by decide +kernel
theorem kb_7 : (Int8.ofInt (7)).toInt32 = (7 : Int32) := by decide +kernel
theorem kl_0 : Int64.ofNat 0 = (0 : Int64) := by decide +kernel
theorem kl_1 : Int64.ofNat 1 = (1 : Int64) := by decide +kernel
theorem kb_109 : (Int8.ofInt (109)).toInt32 = (109 : Int32) := by decide +kernel
theorem kb_105 : (Int8.ofInt (105)).toInt32 = (105 : Int32) := by decide +kernel
theorem kb_110 : (Int8.ofInt (110)).toInt32 = (110 : Int32) := by decide +kernel
theorem kb_117 : (Int8.ofInt (117)).toInt32 = (117 : Int32) := by decide +kernel
theorem kb_116 : (Int8.ofInt (116)).toInt32 = (116 : Int32) := by decide +kernel
theorem kb_101 : (Int8.ofInt (101)).toInt32 = (101 : Int32) := by decide +kernel
theorem kb_114 : (Int8.ofInt (114)).toInt32 = (114 : Int32) := by decide +kernel
theorem kb_111 : (Int8.ofInt (111)).toInt32 = (111 : Int32) := by decide +kernel
theorem kb_108 : (Int8.ofInt (108)).toInt32 = (108 : Int32) := by decide +kernel
theorem kb_102 : (Int8.ofInt (102)).toInt32 = (102 : Int32) := by decide +kernel
theorem kb_98 : (Int8.ofInt (98)).toInt32 = (98 : Int32) := by decide +kernel
theorem kb_115 : (Int8.ofInt (115)).toInt32 = (115 : Int32) := by decide +kernel
theorem kb_112 : (Int8.ofInt (112)).toInt32 = (112 : Int32) := by decide +kernel
theorem kb_49 : (Int8.ofInt (49)).toInt32 = (49 : Int32) := by decide +kernel
theorem kb_30 : (Int8.ofInt (30)).toInt32 = (30 : Int32) := by decide +kernel
theorem kb_16 : (Int8.ofInt (16)).toInt32 = (16 : Int32) := by decide +kernel
theorem fl_RX0_46 : Cond.fieldLink RX0 46 (TX0 12).1 (TX0 12).2.1 (TX0 12).2.2.1 ∈ lw_gd := wq_at wl4_ok 22 rfl
theorem fl_RX0_43 : Cond.fieldLink RX0 43 (TX0 11).1 (TX0 11).2.1 (TX0 11).2.2.1 ∈ lw_gd := wq_at wl4_ok 20 rfl
theorem fl_RX0_56 : Cond.fieldLink RX0 56 (TX0 0).1 (TX0 0).2.1 (TX0 0).2.2.1 ∈ lw_gd := wq_at wl4_ok 8 rfl
theorem fl_RX0_87 : Cond.fieldLink RX0 87 (TX1 2).1 (TX1 2).2.1 (TX1 2).2.2.1 ∈ lw_gd := wq_at wl3_ok 10 rfl
theorem fl_RX0_31 : Cond.fieldLink RX0 31 (TX0 7).1 (TX0 7).2.1 (TX0 7).2.2.1 ∈ lw_gd := wq_at wl4_ok 16 rfl
theorem fl_RX0_25 : Cond.fieldLink RX0 25 (TX0 5).1 (TX0 5).2.1 (TX0 5).2.2.1 ∈ lw_gd := wq_at wl4_ok 13 rfl
theorem fl_RX6_15 : Cond.fieldLink RX6 15 (TX6 1).1 (TX6 1).2.1 (TX6 1).2.2.1 ∈ lw_gd := wq_at wl4_ok 28 rfl
theorem fl_RX6_9 : Cond.fieldLink RX6 9 (TX6 0).1 (TX6 0).2.1 (TX6 0).2.2.1 ∈ lw_gd := wq_at wl4_ok 27 rfl
theorem fl_RX0_18 : Cond.fieldLink RX0 18 (TX0 3).1 (TX0 3).2.1 (TX0 3).2.2.1 ∈ lw_gd := wq_at wl4_ok 11 rfl
theorem fl_RX0_90 : Cond.fieldLink RX0 90 (TX1 7).1 (TX1 7).2.1 (TX1 7).2.2.1 ∈ lw_gd := wq_at wl3_ok 23 rfl
theorem fl_RX0_143 : Cond.fieldLink RX0 143 (TX2 1).1 (TX2 1).2.1 (TX2 1).2.2.1 ∈ lw_gd := wq_at wl2_ok 22 rfl
theorem fl_RX0_60 : Cond.fieldLink RX0 60 (TX0 1).1 (TX0 1).2.1 (TX0 1).2.2.1 ∈ lw_gd := wq_at wl4_ok 9 rfl
theorem fl_RX0_149 : Cond.fieldLink RX0 149 (TX1 3).1 (TX1 3).2.1 (TX1 3).2.2.1 ∈ lw_gd := wq_at wl3_ok 13 rfl
theorem fl_RX0_22 : Cond.fieldLink RX0 22 (TX0 4).1 (TX0 4).2.1 (TX0 4).2.2.1 ∈ lw_gd := wq_at wl4_ok 12 rfl
theorem fl_RX2_9 : Cond.fieldLink RX2 9 (TX2 0).1 (TX2 0).2.1 (TX2 0).2.2.1 ∈ lw_gd := wq_at wl2_ok 18 rfl
theorem fl_RX2_15 : Cond.fieldLink RX2 15 (TX2 1).1 (TX2 1).2.1 (TX2 1).2.2.1 ∈ lw_gd := wq_at wl2_ok 20 rfl
theorem fl_RX2_21 : Cond.fieldLink RX2 21 (TX2 3).1 (TX2 3).2.1 (TX2 3).2.2.1 ∈ lw_gd := wq_at wl2_ok 28 rfl
theorem fl_RX2_24 : Cond.fieldLink RX2 24 (TX2 4).1 (TX2 4).2.1 (TX2 4).2.2.1 ∈ lw_gd := wq_at wl3_ok 1 rfl
theorem fl_RX5_9 : Cond.fieldLink RX5 9 (TX5 0).1 (TX5 0).2.1 (TX5 0).2.2.1 ∈ lw_gd := wq_at wl4_ok 6 rfl
theorem fl_RX0_34 : Cond.fieldLink RX0 34 (TX0 8).1 (TX0 8).2.1 (TX0 8).2.2.1 ∈ lw_gd := wq_at wl4_ok 17 rfl
theorem fl_RX0_37 : Cond.fieldLink RX0 37 (TX0 9).1 (TX0 9).2.1 (TX0 9).2.2.1 ∈ lw_gd := wq_at wl4_ok 18 rfl
theorem fl_RX0_50 : Cond.fieldLink RX0 50 (TX0 13).1 (TX0 13).2.1 (TX0 13).2.2.1 ∈ lw_gd := wq_at wl4_ok 23 rfl
theorem fl_RX0_12 : Cond.fieldLink RX0 12 (TX0 2).1 (TX0 2).2.1 (TX0 2).2.2.1 ∈ lw_gd := wq_at wl4_ok 10 rfl
theorem fl_RX0_40 : Cond.fieldLink RX0 40 (TX0 10).1 (TX0 10).2.1 (TX0 10).2.2.1 ∈ lw_gd := wq_at wl4_ok 19 rfl
theorem fl_RX0_28 : Cond.fieldLink RX0 28 (TX0 6).1 (TX0 6).2.1 (TX0 6).2.2.1 ∈ lw_gd := wq_at wl4_ok 15 rfl
theorem fl_RX1_15 : Cond.fieldLink RX1 15 (TX1 1).1 (TX1 1).2.1 (TX1 1).2.2.1 ∈ lw_gd := wq_at wl3_ok 7 rfl
theorem fl_RX1_28 : Cond.fieldLink RX1 28 (TX1 5).1 (TX1 5).2.1 (TX1 5).2.2.1 ∈ lw_gd := wq_at wl3_ok 17 rfl
theorem fl_RX1_24 : Cond.fieldLink RX1 24 (TX1 4).1 (TX1 4).2.1 (TX1 4).2.2.1 ∈ lw_gd := wq_at wl3_ok 15 rfl
theorem fl_RX0_53 : Cond.fieldLink RX0 53 (TX0 14).1 (TX0 14).2.1 (TX0 14).2.2.1 ∈ lw_gd := wq_at wl4_ok 25 rfl
theorem fl_RX5_15 : Cond.fieldLink RX5 15 (TX5 1).1 (TX5 1).2.1 (TX5 1).2.2.1 ∈ lw_gd := wq_at wl4_ok 7 rfl
theorem fl_RX0_72 : Cond.fieldLink RX0 72 (TX1 0).1 (TX1 0).2.1 (TX1 0).2.2.1 ∈ lw_gd := wq_at wl3_ok 5 rfl
theorem fl_RX0_80 : Cond.fieldLink RX0 80 (TX1 6).1 (TX1 6).2.1 (TX1 6).2.2.1 ∈ lw_gd := wq_at wl3_ok 20 rfl
theorem fl_RX0_94 : Cond.fieldLink RX0 94 (TX2 2).1 (TX2 2).2.1 (TX2 2).2.2.1 ∈ lw_gd := wq_at wl2_ok 25 rfl
theorem fl_RX0_99 : Cond.fieldLink RX0 99 (TX2 3).1 (TX2 3).2.1 (TX2 3).2.2.1 ∈ lw_gd := wq_at wl2_ok 29 rfl
theorem fl_RX0_102 : Cond.fieldLink RX0 102 (TX2 4).1 (TX2 4).2.1 (TX2 4).2.2.1 ∈ lw_gd := wq_at wl3_ok 2 rfl
theorem fl_RX2_18 : Cond.fieldLink RX2 18 (TX2 2).1 (TX2 2).2.1 (TX2 2).2.2.1 ∈ lw_gd := wq_at wl2_ok 24 rfl
theorem fl_RX1_9 : Cond.fieldLink RX1 9 (TX1 0).1 (TX1 0).2.1 (TX1 0).2.2.1 ∈ lw_gd := wq_at wl3_ok 4 rfl
theorem fl_RX1_18 : Cond.fieldLink RX1 18 (TX1 2).1 (TX1 2).2.1 (TX1 2).2.2.1 ∈ lw_gd := wq_at wl3_ok 9 rfl
theorem fl_RX1_21 : Cond.fieldLink RX1 21 (TX1 3).1 (TX1 3).2.1 (TX1 3).2.2.1 ∈ lw_gd := wq_at wl3_ok 12 rfl
theorem fl_RX1_31 : Cond.fieldLink RX1 31 (TX1 6).1 (TX1 6).2.1 (TX1 6).2.2.1 ∈ lw_gd := wq_at wl3_ok 19 rfl
theorem fl_RX1_36 : Cond.fieldLink RX1 36 (TX1 7).1 (TX1 7).2.1 (TX1 7).2.2.1 ∈ lw_gd := wq_at wl3_ok 22 rfl
theorem fl_RX1_58 : Cond.fieldLink RX1 58 (TX2 2).1 (TX2 2).2.1 (TX2 2).2.2.1 ∈ lw_gd := wq_at wl2_ok 26 rfl
theorem fl_RX1_55 : Cond.fieldLink RX1 55 (TX2 1).1 (TX2 1).2.1 (TX2 1).2.2.1 ∈ lw_gd := wq_at wl2_ok 21 rfl
theorem fl_RX3_15 : Cond.fieldLink RX3 15 (TX3 1).1 (TX3 1).2.1 (TX3 1).2.2.1 ∈ lw_gd := wq_at wl3_ok 26 rfl
theorem fl_RX3_9 : Cond.fieldLink RX3 9 (TX3 0).1 (TX3 0).2.1 (TX3 0).2.2.1 ∈ lw_gd := wq_at wl3_ok 25 rfl
theorem fl_RX3_31 : Cond.fieldLink RX3 31 (TX3 6).1 (TX3 6).2.1 (TX3 6).2.2.1 ∈ lw_gd := wq_at wl4_ok 2 rfl
theorem fl_RX3_19 : Cond.fieldLink RX3 19 (TX3 2).1 (TX3 2).2.1 (TX3 2).2.2.1 ∈ lw_gd := wq_at wl3_ok 28 rfl
theorem fl_RX3_25 : Cond.fieldLink RX3 25 (TX3 4).1 (TX3 4).2.1 (TX3 4).2.2.1 ∈ lw_gd := wq_at wl4_ok 0 rfl
theorem fl_RX3_28 : Cond.fieldLink RX3 28 (TX3 5).1 (TX3 5).2.1 (TX3 5).2.2.1 ∈ lw_gd := wq_at wl4_ok 1 rfl
theorem fl_RX3_22 : Cond.fieldLink RX3 22 (TX3 3).1 (TX3 3).2.1 (TX3 3).2.2.1 ∈ lw_gd := wq_at wl3_ok 29 rfl
theorem fl_RX3_40 : Cond.fieldLink RX3 40 (TX3 9).1 (TX3 9).2.1 (TX3 9).2.2.1 ∈ lw_gd := wq_at wl4_ok 5 rfl
theorem fl_RX3_34 : Cond.fieldLink RX3 34 (TX3 7).1 (TX3 7).2.1 (TX3 7).2.2.1 ∈ lw_gd := wq_at wl4_ok 3 rfl
theorem fl_RX3_37 : Cond.fieldLink RX3 37 (TX3 8).1 (TX3 8).2.1 (TX3 8).2.2.1 ∈ lw_gd := wq_at wl4_ok 4 rfl
theorem fl_RX4_9 : Cond.fieldLink RX4 9 (TX4 0).1 (TX4 0).2.1 (TX4 0).2.2.1 ∈ lw_gd := wq_at wl4_ok 29 rfl
theorem fl_RX4_15 : Cond.fieldLink RX4 15 (TX4 1).1 (TX4 1).2.1 (TX4 1).2.2.1 ∈ lw_gd := wq_at wl5_ok 1 rfl
theorem fl_RX4_18 : Cond.fieldLink RX4 18 (TX4 2).1 (TX4 2).2.1 (TX4 2).2.2.1 ∈ lw_gd := wq_at wl5_ok 3 rfl
theorem fl_RX7_139 : Cond.fieldLink RX7 139 (TX2 1).1 (TX2 1).2.1 (TX2 1).2.2.1 ∈ lw_gd := wq_at wl2_ok 23 rfl
theorem fl_RX7_142 : Cond.fieldLink RX7 142 (TX2 2).1 (TX2 2).2.1 (TX2 2).2.2.1 ∈ lw_gd := wq_at wl2_ok 27 rfl
theorem fl_RX7_145 : Cond.fieldLink RX7 145 (TX2 0).1 (TX2 0).2.1 (TX2 0).2.2.1 ∈ lw_gd := wq_at wl2_ok 19 rfl
theorem fl_RX7_123 : Cond.fieldLink RX7 123 (TX2 3).1 (TX2 3).2.1 (TX2 3).2.2.1 ∈ lw_gd := wq_at wl3_ok 0 rfl
theorem fl_RX7_10 : Cond.fieldLink RX7 10 (TX7 0).1 (TX7 0).2.1 (TX7 0).2.2.1 ∈ lw_gd := wq_at wl6_ok 25 rfl
theorem fl_RX7_129 : Cond.fieldLink RX7 129 (TX1 0).1 (TX1 0).2.1 (TX1 0).2.2.1 ∈ lw_gd := wq_at wl3_ok 6 rfl
theorem fl_RX7_132 : Cond.fieldLink RX7 132 (TX1 6).1 (TX1 6).2.1 (TX1 6).2.2.1 ∈ lw_gd := wq_at wl3_ok 21 rfl
theorem fl_RX7_102 : Cond.fieldLink RX7 102 (TX1 1).1 (TX1 1).2.1 (TX1 1).2.2.1 ∈ lw_gd := wq_at wl3_ok 8 rfl
theorem fl_RX7_105 : Cond.fieldLink RX7 105 (TX1 4).1 (TX1 4).2.1 (TX1 4).2.2.1 ∈ lw_gd := wq_at wl3_ok 16 rfl
theorem fl_RX7_108 : Cond.fieldLink RX7 108 (TX1 5).1 (TX1 5).2.1 (TX1 5).2.2.1 ∈ lw_gd := wq_at wl3_ok 18 rfl
theorem fl_RX7_111 : Cond.fieldLink RX7 111 (TX1 2).1 (TX1 2).2.1 (TX1 2).2.2.1 ∈ lw_gd := wq_at wl3_ok 11 rfl
theorem fl_RX7_114 : Cond.fieldLink RX7 114 (TX1 7).1 (TX1 7).2.1 (TX1 7).2.2.1 ∈ lw_gd := wq_at wl3_ok 24 rfl
theorem fl_RX7_84 : Cond.fieldLink RX7 84 RX7 "LEAST" "[I" ∈ lw_gd := wq_at wl7_ok 5 rfl
theorem fl_RX7_91 : Cond.fieldLink RX7 91 RX7 "MOST" "[I" ∈ lw_gd := wq_at wl7_ok 7 rfl
theorem fl_RX7_126 : Cond.fieldLink RX7 126 (TX2 4).1 (TX2 4).2.1 (TX2 4).2.2.1 ∈ lw_gd := wq_at wl3_ok 3 rfl
theorem fl_RX7_29 : Cond.fieldLink RX7 29 (TX7 4).1 (TX7 4).2.1 (TX7 4).2.2.1 ∈ lw_gd := wq_at wl6_ok 29 rfl
theorem fl_RX7_161 : Cond.fieldLink RX7 161 (TX3 1).1 (TX3 1).2.1 (TX3 1).2.2.1 ∈ lw_gd := wq_at wl3_ok 27 rfl
theorem fl_RX7_39 : Cond.fieldLink RX7 39 (TX7 6).1 (TX7 6).2.1 (TX7 6).2.2.1 ∈ lw_gd := wq_at wl7_ok 1 rfl
theorem fl_RX7_35 : Cond.fieldLink RX7 35 (TX7 5).1 (TX7 5).2.1 (TX7 5).2.2.1 ∈ lw_gd := wq_at wl7_ok 0 rfl
theorem fl_RX7_164 : Cond.fieldLink RX7 164 (TX1 3).1 (TX1 3).2.1 (TX1 3).2.2.1 ∈ lw_gd := wq_at wl3_ok 14 rfl
theorem fl_RX7_48 : Cond.fieldLink RX7 48 (TX7 7).1 (TX7 7).2.1 (TX7 7).2.2.1 ∈ lw_gd := wq_at wl7_ok 2 rfl
theorem fl_RX7_187 : Cond.fieldLink RX7 187 (TX0 13).1 (TX0 13).2.1 (TX0 13).2.2.1 ∈ lw_gd := wq_at wl4_ok 24 rfl
theorem fl_RX7_190 : Cond.fieldLink RX7 190 (TX0 14).1 (TX0 14).2.1 (TX0 14).2.2.1 ∈ lw_gd := wq_at wl4_ok 26 rfl
theorem fl_RX7_180 : Cond.fieldLink RX7 180 (TX0 11).1 (TX0 11).2.1 (TX0 11).2.2.1 ∈ lw_gd := wq_at wl4_ok 21 rfl
theorem fl_RX7_58 : Cond.fieldLink RX7 58 (TX7 9).1 (TX7 9).2.1 (TX7 9).2.2.1 ∈ lw_gd := wq_at wl7_ok 4 rfl
theorem fl_RX7_19 : Cond.fieldLink RX7 19 (TX7 2).1 (TX7 2).2.1 (TX7 2).2.2.1 ∈ lw_gd := wq_at wl6_ok 27 rfl
theorem fl_RX7_222 : Cond.fieldLink RX7 222 (TX4 1).1 (TX4 1).2.1 (TX4 1).2.2.1 ∈ lw_gd := wq_at wl5_ok 2 rfl
theorem fl_RX7_223 : Cond.fieldLink RX7 223 (TX4 2).1 (TX4 2).2.1 (TX4 2).2.2.1 ∈ lw_gd := wq_at wl5_ok 4 rfl
theorem fl_RX7_54 : Cond.fieldLink RX7 54 (TX7 8).1 (TX7 8).2.1 (TX7 8).2.2.1 ∈ lw_gd := wq_at wl7_ok 3 rfl
theorem fl_RX7_238 : Cond.fieldLink RX7 238 (TX0 5).1 (TX0 5).2.1 (TX0 5).2.2.1 ∈ lw_gd := wq_at wl4_ok 14 rfl
theorem fl_RX7_16 : Cond.fieldLink RX7 16 (TX7 1).1 (TX7 1).2.1 (TX7 1).2.2.1 ∈ lw_gd := wq_at wl6_ok 26 rfl
theorem fl_RX7_22 : Cond.fieldLink RX7 22 (TX7 3).1 (TX7 3).2.1 (TX7 3).2.2.1 ∈ lw_gd := wq_at wl6_ok 28 rfl
theorem fl_RX7_260 : Cond.fieldLink RX7 260 (TX4 0).1 (TX4 0).2.1 (TX4 0).2.2.1 ∈ lw_gd := wq_at wl5_ok 0 rfl
theorem fl_RX8_13 : Cond.fieldLink RX8 13 (TX8 1).1 (TX8 1).2.1 (TX8 1).2.2.1 ∈ lw_gd := wq_at wl10_ok 15 rfl
theorem fl_RX8_118 : Cond.fieldLink RX8 118 (TX8 17).1 (TX8 17).2.1 (TX8 17).2.2.1 ∈ lw_gd := wq_at wl11_ok 1 rfl
theorem fl_RX8_121 : Cond.fieldLink RX8 121 (TX8 11).1 (TX8 11).2.1 (TX8 11).2.2.1 ∈ lw_gd := wq_at wl10_ok 25 rfl
theorem fl_RX8_23 : Cond.fieldLink RX8 23 (TX8 7).1 (TX8 7).2.1 (TX8 7).2.2.1 ∈ lw_gd := wq_at wl10_ok 21 rfl
theorem fl_RX8_26 : Cond.fieldLink RX8 26 (TX8 8).1 (TX8 8).2.1 (TX8 8).2.2.1 ∈ lw_gd := wq_at wl10_ok 22 rfl
theorem fl_RX8_29 : Cond.fieldLink RX8 29 (TX8 9).1 (TX8 9).2.1 (TX8 9).2.2.1 ∈ lw_gd := wq_at wl10_ok 23 rfl
theorem fl_RX8_32 : Cond.fieldLink RX8 32 (TX8 10).1 (TX8 10).2.1 (TX8 10).2.2.1 ∈ lw_gd := wq_at wl10_ok 24 rfl
theorem fl_RX8_38 : Cond.fieldLink RX8 38 (TX8 13).1 (TX8 13).2.1 (TX8 13).2.2.1 ∈ lw_gd := wq_at wl10_ok 27 rfl
theorem fl_RX8_41 : Cond.fieldLink RX8 41 (TX8 14).1 (TX8 14).2.1 (TX8 14).2.2.1 ∈ lw_gd := wq_at wl10_ok 28 rfl
theorem fl_RX8_47 : Cond.fieldLink RX8 47 (TX8 16).1 (TX8 16).2.1 (TX8 16).2.2.1 ∈ lw_gd := wq_at wl11_ok 0 rfl
theorem fl_RX8_44 : Cond.fieldLink RX8 44 (TX8 15).1 (TX8 15).2.1 (TX8 15).2.2.1 ∈ lw_gd := wq_at wl10_ok 29 rfl
theorem fl_RX8_35 : Cond.fieldLink RX8 35 (TX8 12).1 (TX8 12).2.1 (TX8 12).2.2.1 ∈ lw_gd := wq_at wl10_ok 26 rfl
theorem fl_RX8_53 : Cond.fieldLink RX8 53 (TX8 19).1 (TX8 19).2.1 (TX8 19).2.2.1 ∈ lw_gd := wq_at wl11_ok 3 rfl
theorem fl_RX8_173 : Cond.fieldLink RX8 173 (TX8 20).1 (TX8 20).2.1 (TX8 20).2.2.1 ∈ lw_gd := wq_at wl11_ok 4 rfl
theorem fl_RX8_183 : Cond.fieldLink RX8 183 (TX8 6).1 (TX8 6).2.1 (TX8 6).2.2.1 ∈ lw_gd := wq_at wl10_ok 20 rfl
theorem fl_RX8_20 : Cond.fieldLink RX8 20 (TX8 5).1 (TX8 5).2.1 (TX8 5).2.2.1 ∈ lw_gd := wq_at wl10_ok 19 rfl
theorem fl_RX8_186 : Cond.fieldLink RX8 186 (TX8 28).1 (TX8 28).2.1 (TX8 28).2.2.1 ∈ lw_gd := wq_at wl11_ok 12 rfl
theorem fl_RX8_189 : Cond.fieldLink RX8 189 (TX8 27).1 (TX8 27).2.1 (TX8 27).2.2.1 ∈ lw_gd := wq_at wl11_ok 11 rfl
theorem fl_RX8_192 : Cond.fieldLink RX8 192 (TX8 29).1 (TX8 29).2.1 (TX8 29).2.2.1 ∈ lw_gd := wq_at wl11_ok 13 rfl
theorem fl_RX8_198 : Cond.fieldLink RX8 198 (TX8 31).1 (TX8 31).2.1 (TX8 31).2.2.1 ∈ lw_gd := wq_at wl11_ok 15 rfl
theorem fl_RX8_201 : Cond.fieldLink RX8 201 (TX8 30).1 (TX8 30).2.1 (TX8 30).2.2.1 ∈ lw_gd := wq_at wl11_ok 14 rfl
theorem fl_RX8_212 : Cond.fieldLink RX8 212 (TX8 32).1 (TX8 32).2.1 (TX8 32).2.2.1 ∈ lw_gd := wq_at wl11_ok 16 rfl
theorem fl_RX8_216 : Cond.fieldLink RX8 216 (TX8 34).1 (TX8 34).2.1 (TX8 34).2.2.1 ∈ lw_gd := wq_at wl11_ok 18 rfl
theorem fl_RX8_220 : Cond.fieldLink RX8 220 (TX8 35).1 (TX8 35).2.1 (TX8 35).2.2.1 ∈ lw_gd := wq_at wl11_ok 19 rfl
theorem fl_RX8_226 : Cond.fieldLink RX8 226 (TX8 33).1 (TX8 33).2.1 (TX8 33).2.2.1 ∈ lw_gd := wq_at wl11_ok 17 rfl
theorem fl_RX8_254 : Cond.fieldLink RX8 254 (TX8 26).1 (TX8 26).2.1 (TX8 26).2.2.1 ∈ lw_gd := wq_at wl11_ok 10 rfl
theorem fl_RX8_251 : Cond.fieldLink RX8 251 (TX8 25).1 (TX8 25).2.1 (TX8 25).2.2.1 ∈ lw_gd := wq_at wl11_ok 9 rfl
theorem fl_RX8_248 : Cond.fieldLink RX8 248 (TX8 24).1 (TX8 24).2.1 (TX8 24).2.2.1 ∈ lw_gd := wq_at wl11_ok 8 rfl
theorem fl_RX8_245 : Cond.fieldLink RX8 245 (TX8 23).1 (TX8 23).2.1 (TX8 23).2.2.1 ∈ lw_gd := wq_at wl11_ok 7 rfl
theorem fl_RX8_242 : Cond.fieldLink RX8 242 (TX8 22).1 (TX8 22).2.1 (TX8 22).2.2.1 ∈ lw_gd := wq_at wl11_ok 6 rfl
theorem fl_RX8_239 : Cond.fieldLink RX8 239 (TX8 21).1 (TX8 21).2.1 (TX8 21).2.2.1 ∈ lw_gd := wq_at wl11_ok 5 rfl
theorem fl_RX8_17 : Cond.fieldLink RX8 17 (TX8 2).1 (TX8 2).2.1 (TX8 2).2.2.1 ∈ lw_gd := wq_at wl10_ok 16 rfl
theorem fl_RX8_109 : Cond.fieldLink RX8 109 (TX8 3).1 (TX8 3).2.1 (TX8 3).2.2.1 ∈ lw_gd := wq_at wl10_ok 17 rfl
theorem fl_RX8_297 : Cond.fieldLink RX8 297 (TX8 4).1 (TX8 4).2.1 (TX8 4).2.2.1 ∈ lw_gd := wq_at wl10_ok 18 rfl
theorem fl_RX8_56 : Cond.fieldLink RX8 56 (TX8 36).1 (TX8 36).2.1 (TX8 36).2.2.1 ∈ lw_gd := wq_at wl11_ok 20 rfl
theorem fl_RX8_74 : Cond.fieldLink RX8 74 (TX8 42).1 (TX8 42).2.1 (TX8 42).2.2.1 ∈ lw_gd := wq_at wl11_ok 26 rfl
theorem fl_RX8_50 : Cond.fieldLink RX8 50 (TX8 18).1 (TX8 18).2.1 (TX8 18).2.2.1 ∈ lw_gd := wq_at wl11_ok 2 rfl
theorem fl_RX8_59 : Cond.fieldLink RX8 59 (TX8 37).1 (TX8 37).2.1 (TX8 37).2.2.1 ∈ lw_gd := wq_at wl11_ok 21 rfl
theorem fl_RX8_65 : Cond.fieldLink RX8 65 (TX8 39).1 (TX8 39).2.1 (TX8 39).2.2.1 ∈ lw_gd := wq_at wl11_ok 23 rfl
theorem fl_RX8_304 : Cond.fieldLink RX8 304 (TX8 43).1 (TX8 43).2.1 (TX8 43).2.2.1 ∈ lw_gd := wq_at wl11_ok 27 rfl
theorem fl_RX8_307 : Cond.fieldLink RX8 307 (TX8 44).1 (TX8 44).2.1 (TX8 44).2.2.1 ∈ lw_gd := wq_at wl11_ok 28 rfl
theorem fl_RX8_68 : Cond.fieldLink RX8 68 (TX8 40).1 (TX8 40).2.1 (TX8 40).2.2.1 ∈ lw_gd := wq_at wl11_ok 24 rfl
theorem fl_RX8_71 : Cond.fieldLink RX8 71 (TX8 41).1 (TX8 41).2.1 (TX8 41).2.2.1 ∈ lw_gd := wq_at wl11_ok 25 rfl
theorem fl_RX8_62 : Cond.fieldLink RX8 62 (TX8 38).1 (TX8 38).2.1 (TX8 38).2.2.1 ∈ lw_gd := wq_at wl11_ok 22 rfl
theorem fl_RX8_348 : Cond.fieldLink RX8 348 (TX8 47).1 (TX8 47).2.1 (TX8 47).2.2.1 ∈ lw_gd := wq_at wl12_ok 1 rfl
theorem fl_RX8_351 : Cond.fieldLink RX8 351 (TX8 46).1 (TX8 46).2.1 (TX8 46).2.2.1 ∈ lw_gd := wq_at wl12_ok 0 rfl
theorem fl_RX8_77 : Cond.fieldLink RX8 77 (TX8 45).1 (TX8 45).2.1 (TX8 45).2.2.1 ∈ lw_gd := wq_at wl11_ok 29 rfl
theorem fl_RX8_92 : Cond.fieldLink RX8 92 (TX8 55).1 (TX8 55).2.1 (TX8 55).2.2.1 ∈ lw_gd := wq_at wl12_ok 9 rfl
theorem fl_RX8_99 : Cond.fieldLink RX8 99 (TX8 57).1 (TX8 57).2.1 (TX8 57).2.2.1 ∈ lw_gd := wq_at wl12_ok 11 rfl
theorem fl_RX8_102 : Cond.fieldLink RX8 102 (TX8 58).1 (TX8 58).2.1 (TX8 58).2.2.1 ∈ lw_gd := wq_at wl12_ok 12 rfl
theorem fl_RX8_96 : Cond.fieldLink RX8 96 (TX8 56).1 (TX8 56).2.1 (TX8 56).2.2.1 ∈ lw_gd := wq_at wl12_ok 10 rfl
theorem fl_RX8_80 : Cond.fieldLink RX8 80 (TX8 48).1 (TX8 48).2.1 (TX8 48).2.2.1 ∈ lw_gd := wq_at wl12_ok 2 rfl
theorem fl_RX8_89 : Cond.fieldLink RX8 89 (TX8 51).1 (TX8 51).2.1 (TX8 51).2.2.1 ∈ lw_gd := wq_at wl12_ok 5 rfl
theorem fl_RX8_381 : Cond.fieldLink RX8 381 (TX8 52).1 (TX8 52).2.1 (TX8 52).2.2.1 ∈ lw_gd := wq_at wl12_ok 6 rfl
theorem fl_RX8_384 : Cond.fieldLink RX8 384 (TX8 53).1 (TX8 53).2.1 (TX8 53).2.2.1 ∈ lw_gd := wq_at wl12_ok 7 rfl
theorem fl_RX8_387 : Cond.fieldLink RX8 387 (TX8 54).1 (TX8 54).2.1 (TX8 54).2.2.1 ∈ lw_gd := wq_at wl12_ok 8 rfl
theorem fl_RX8_86 : Cond.fieldLink RX8 86 (TX8 50).1 (TX8 50).2.1 (TX8 50).2.2.1 ∈ lw_gd := wq_at wl12_ok 4 rfl
theorem fl_RX8_83 : Cond.fieldLink RX8 83 (TX8 49).1 (TX8 49).2.1 (TX8 49).2.2.1 ∈ lw_gd := wq_at wl12_ok 3 rfl
theorem cw_RX6_24 : Cond.methodLink RX6 24 yX6_joined ∈ lw_gd ∧ Cond.static yX6_joined ∈ lw_gd := ⟨wq_at wl8_ok 17 rfl, wq_at wl8_ok 18 rfl⟩
theorem cw_RX0_146 : Cond.methodLink RX0 146 yX0_othersWith ∈ lw_gd ∧ Cond.instanceMethod yX0_othersWith ∈ lw_gd ∧ Cond.selects yX0_othersWith.cls yX0_othersWith yX0_othersWith ∈ lw_gd := ⟨wq_at wl8_ok 14 rfl, gd_at 616 (by decide +kernel) rfl, wq_at wl0_ok 18 rfl⟩
theorem cw_RX0_152 : Cond.methodLink RX0 152 yX6_value ∈ lw_gd ∧ Cond.instanceMethod yX6_value ∈ lw_gd ∧ Cond.selects yX6_value.cls yX6_value yX6_value ∈ lw_gd := ⟨wq_at wl8_ok 15 rfl, gd_at 619 (by decide +kernel) rfl, wq_at wl8_ok 16 rfl⟩
theorem cw_RX2_34 : (RX2, 34, yX7_within, "NeverSeen") ∈ nstM ∧ Cond.static yX7_within ∈ lw_gd := ⟨(by decide +kernel), wq_at wl6_ok 21 rfl⟩
theorem cw_RX5_36 : (RX5, 36, yX7_within, "NeverSeen") ∈ nstM ∧ Cond.static yX7_within ∈ lw_gd := ⟨(by decide +kernel), wq_at wl6_ok 21 rfl⟩
theorem cw_RX0_117 : Cond.methodLink RX0 117 yX2_roomListed ∈ lw_gd ∧ Cond.instanceMethod yX2_roomListed ∈ lw_gd ∧ Cond.selects yX2_roomListed.cls yX2_roomListed yX2_roomListed ∈ lw_gd := ⟨wq_at wl8_ok 12 rfl, gd_at 495 (by decide +kernel) rfl, wq_at wl7_ok 13 rfl⟩
theorem cw_RX0_120 : Cond.methodLink RX0 120 yX0_tells ∈ lw_gd ∧ Cond.instanceMethod yX0_tells ∈ lw_gd ∧ Cond.selects yX0_tells.cls yX0_tells yX0_tells ∈ lw_gd := ⟨wq_at wl8_ok 13 rfl, gd_at 612 (by decide +kernel) rfl, wq_at wl0_ok 17 rfl⟩
theorem cw_RX0_124 : Cond.methodLink RX0 124 yX2_works ∈ lw_gd ∧ Cond.instanceMethod yX2_works ∈ lw_gd ∧ Cond.selects yX2_works.cls yX2_works yX2_works ∈ lw_gd := ⟨wq_at wl8_ok 21 rfl, gd_at 630 (by decide +kernel) rfl, wq_at wl8_ok 22 rfl⟩
theorem cw_RX0_133 : Cond.methodLink RX0 133 yX5_nextLaid ∈ lw_gd ∧ Cond.instanceMethod yX5_nextLaid ∈ lw_gd ∧ Cond.selects yX5_nextLaid.cls yX5_nextLaid yX5_nextLaid ∈ lw_gd := ⟨wq_at wl8_ok 24 rfl, gd_at 635 (by decide +kernel) rfl, wq_at wl8_ok 25 rfl⟩
theorem cw_RX0_136 : Cond.methodLink RX0 136 yX2_dares ∈ lw_gd ∧ Cond.instanceMethod yX2_dares ∈ lw_gd ∧ Cond.selects yX2_dares.cls yX2_dares yX2_dares ∈ lw_gd := ⟨wq_at wl8_ok 26 rfl, gd_at 640 (by decide +kernel) rfl, wq_at wl8_ok 27 rfl⟩
theorem cw_RX0_140 : Cond.methodLink RX0 140 yX2_takes ∈ lw_gd ∧ Cond.instanceMethod yX2_takes ∈ lw_gd ∧ Cond.selects yX2_takes.cls yX2_takes yX2_takes ∈ lw_gd := ⟨wq_at wl8_ok 28 rfl, gd_at 644 (by decide +kernel) rfl, wq_at wl8_ok 29 rfl⟩
theorem cw_RX0_105 : Cond.methodLink RX0 105 yX1_masterIn ∈ lw_gd ∧ Cond.instanceMethod yX1_masterIn ∈ lw_gd ∧ Cond.selects yX1_masterIn.cls yX1_masterIn yX1_masterIn ∈ lw_gd := ⟨wq_at wl8_ok 10 rfl, gd_at 559 (by decide +kernel) rfl, wq_at wl7_ok 27 rfl⟩
theorem cw_RX0_113 : Cond.methodLink RX0 113 yX0_isAllDone ∈ lw_gd ∧ Cond.instanceMethod yX0_isAllDone ∈ lw_gd ∧ Cond.selects yX0_isAllDone.cls yX0_isAllDone yX0_isAllDone ∈ lw_gd := ⟨wq_at wl9_ok 0 rfl, gd_at 649 (by decide +kernel) rfl, wq_at wl0_ok 19 rfl⟩
theorem cw_RX0_109 : Cond.methodLink RX0 109 yX0_turn ∈ lw_gd ∧ Cond.instanceMethod yX0_turn ∈ lw_gd ∧ Cond.selects yX0_turn.cls yX0_turn yX0_turn ∈ lw_gd := ⟨wq_at wl8_ok 11 rfl, gd_at 607 (by decide +kernel) rfl, wq_at wl0_ok 16 rfl⟩
theorem cw_RX5_29 : Cond.methodLink RX5 29 yX5_far ∈ lw_gd ∧ Cond.static yX5_far ∈ lw_gd := ⟨wq_at wl7_ok 25 rfl, wq_at wl7_ok 20 rfl⟩
theorem cw_RX5_33 : Cond.methodLink RX5 33 yX5_nextRoom ∈ lw_gd ∧ Cond.static yX5_nextRoom ∈ lw_gd := ⟨wq_at wl8_ok 6 rfl, wq_at wl7_ok 24 rfl⟩
theorem cw_RX0_77 : Cond.methodLink RX0 77 yX5_lay ∈ lw_gd ∧ Cond.instanceMethod yX5_lay ∈ lw_gd ∧ Cond.selects yX5_lay.cls yX5_lay yX5_lay ∈ lw_gd := ⟨wq_at wl8_ok 4 rfl, gd_at 595 (by decide +kernel) rfl, wq_at wl8_ok 5 rfl⟩
theorem cw_RX0_64 : Cond.methodLink RX0 64 yX0_start ∈ lw_gd ∧ Cond.instanceMethod yX0_start ∈ lw_gd ∧ Cond.selects yX0_start.cls yX0_start yX0_start ∈ lw_gd := ⟨wq_at wl8_ok 2 rfl, gd_at 591 (by decide +kernel) rfl, wq_at wl8_ok 3 rfl⟩
theorem cw_RX0_68 : Cond.methodLink RX0 68 yX0_pass ∈ lw_gd ∧ Cond.instanceMethod yX0_pass ∈ lw_gd ∧ Cond.selects yX0_pass.cls yX0_pass yX0_pass ∈ lw_gd := ⟨wq_at wl8_ok 8 rfl, gd_at 601 (by decide +kernel) rfl, wq_at wl8_ok 9 rfl⟩
theorem cw_RX0_161 : (RX0, 161, yX7_sum, "NeverSeen") ∈ nstM ∧ Cond.static yX7_sum ∈ lw_gd := ⟨(by decide +kernel), wq_at wl9_ok 5 rfl⟩
theorem cw_RX0_165 : (RX0, 165, yX7_within, "NeverSeen") ∈ nstM ∧ Cond.static yX7_within ∈ lw_gd := ⟨(by decide +kernel), wq_at wl6_ok 21 rfl⟩
theorem cw_RX1_47 : Cond.methodLink RX1 47 yX2_become ∈ lw_gd ∧ Cond.instanceMethod yX2_become ∈ lw_gd ∧ Cond.selects yX2_become.cls yX2_become yX2_become ∈ lw_gd := ⟨wq_at wl9_ok 12 rfl, gd_at 681 (by decide +kernel) rfl, wq_at wl9_ok 13 rfl⟩
theorem cw_RX1_51 : (RX1, 51, yX7_within, "NeverSeen") ∈ nstM ∧ Cond.static yX7_within ∈ lw_gd := ⟨(by decide +kernel), wq_at wl6_ok 21 rfl⟩
theorem cw_RX3_81 : Cond.methodLink RX3 81 yX3_refuse ∈ lw_gd ∧ Cond.instanceMethod yX3_refuse ∈ lw_gd ∧ Cond.selects yX3_refuse.cls yX3_refuse yX3_refuse ∈ lw_gd := ⟨wq_at wl6_ok 7 rfl, gd_at 392 (by decide +kernel) rfl, wq_at wl0_ok 4 rfl⟩
theorem cw_RX3_91 : Cond.methodLink RX3 91 yX3_isDigit ∈ lw_gd ∧ Cond.static yX3_isDigit ∈ lw_gd := ⟨wq_at wl6_ok 8 rfl, wq_at wl6_ok 9 rfl⟩
theorem cw_RX3_115 : Cond.methodLink RX3 115 yX3_isOnTape ∈ lw_gd ∧ Cond.instanceMethod yX3_isOnTape ∈ lw_gd ∧ Cond.selects yX3_isOnTape.cls yX3_isOnTape yX3_isOnTape ∈ lw_gd := ⟨wq_at wl6_ok 6 rfl, gd_at 388 (by decide +kernel) rfl, wq_at wl0_ok 3 rfl⟩
theorem cw_RX3_100 : Cond.methodLink RX3 100 yX3_wordOnTape ∈ lw_gd ∧ Cond.instanceMethod yX3_wordOnTape ∈ lw_gd ∧ Cond.selects yX3_wordOnTape.cls yX3_wordOnTape yX3_wordOnTape ∈ lw_gd := ⟨wq_at wl6_ok 3 rfl, gd_at 381 (by decide +kernel) rfl, wq_at wl0_ok 2 rfl⟩
theorem cw_RX3_84 : Cond.methodLink RX3 84 yX3_isLetter ∈ lw_gd ∧ Cond.static yX3_isLetter ∈ lw_gd := ⟨wq_at wl6_ok 0 rfl, wq_at wl6_ok 1 rfl⟩
theorem cw_RX3_97 : Cond.methodLink RX3 97 yX3_isSign ∈ lw_gd ∧ Cond.static yX3_isSign ∈ lw_gd := ⟨wq_at wl6_ok 11 rfl, wq_at wl6_ok 12 rfl⟩
theorem cw_RX3_94 : Cond.methodLink RX3 94 yX3_takeNumber ∈ lw_gd ∧ Cond.instanceMethod yX3_takeNumber ∈ lw_gd ∧ Cond.selects yX3_takeNumber.cls yX3_takeNumber yX3_takeNumber ∈ lw_gd := ⟨wq_at wl6_ok 10 rfl, gd_at 399 (by decide +kernel) rfl, wq_at wl0_ok 5 rfl⟩
theorem cw_RX3_88 : Cond.methodLink RX3 88 yX3_takeWord ∈ lw_gd ∧ Cond.instanceMethod yX3_takeWord ∈ lw_gd ∧ Cond.selects yX3_takeWord.cls yX3_takeWord yX3_takeWord ∈ lw_gd := ⟨wq_at wl6_ok 2 rfl, gd_at 377 (by decide +kernel) rfl, wq_at wl0_ok 1 rfl⟩
theorem cw_RX3_43 : Cond.methodLink RX3 43 yX3_advance ∈ lw_gd ∧ Cond.instanceMethod yX3_advance ∈ lw_gd ∧ Cond.selects yX3_advance.cls yX3_advance yX3_advance ∈ lw_gd := ⟨wq_at wl5_ok 29 rfl, gd_at 370 (by decide +kernel) rfl, wq_at wl0_ok 0 rfl⟩
theorem cw_RX3_62 : Cond.methodLink RX3 62 yX3_write ∈ lw_gd ∧ Cond.instanceMethod yX3_write ∈ lw_gd ∧ Cond.selects yX3_write.cls yX3_write yX3_write ∈ lw_gd := ⟨wq_at wl6_ok 17 rfl, gd_at 422 (by decide +kernel) rfl, wq_at wl0_ok 10 rfl⟩
theorem cw_RX3_77 : (RX3, 77, yX7_within, "NeverSeen") ∈ nstM ∧ Cond.static yX7_within ∈ lw_gd := ⟨(by decide +kernel), wq_at wl6_ok 21 rfl⟩
theorem cw_RX3_50 : Cond.methodLink RX3 50 yX3_readEither ∈ lw_gd ∧ Cond.instanceMethod yX3_readEither ∈ lw_gd ∧ Cond.selects yX3_readEither.cls yX3_readEither yX3_readEither ∈ lw_gd := ⟨wq_at wl6_ok 14 rfl, gd_at 410 (by decide +kernel) rfl, wq_at wl0_ok 7 rfl⟩
theorem cw_RX3_46 : Cond.methodLink RX3 46 yX3_expect ∈ lw_gd ∧ Cond.instanceMethod yX3_expect ∈ lw_gd ∧ Cond.selects yX3_expect.cls yX3_expect yX3_expect ∈ lw_gd := ⟨wq_at wl6_ok 13 rfl, gd_at 406 (by decide +kernel) rfl, wq_at wl0_ok 6 rfl⟩
theorem cw_RX3_74 : Cond.methodLink RX3 74 yX3_readOne ∈ lw_gd ∧ Cond.instanceMethod yX3_readOne ∈ lw_gd ∧ Cond.selects yX3_readOne.cls yX3_readOne yX3_readOne ∈ lw_gd := ⟨wq_at wl6_ok 20 rfl, gd_at 434 (by decide +kernel) rfl, wq_at wl0_ok 13 rfl⟩
theorem cw_RX3_71 : Cond.methodLink RX3 71 yX3_readTerm ∈ lw_gd ∧ Cond.instanceMethod yX3_readTerm ∈ lw_gd ∧ Cond.selects yX3_readTerm.cls yX3_readTerm yX3_readTerm ∈ lw_gd := ⟨wq_at wl6_ok 19 rfl, gd_at 430 (by decide +kernel) rfl, wq_at wl0_ok 12 rfl⟩
theorem cw_RX3_68 : Cond.methodLink RX3 68 yX3_readSum ∈ lw_gd ∧ Cond.instanceMethod yX3_readSum ∈ lw_gd ∧ Cond.selects yX3_readSum.cls yX3_readSum yX3_readSum ∈ lw_gd := ⟨wq_at wl6_ok 18 rfl, gd_at 426 (by decide +kernel) rfl, wq_at wl0_ok 11 rfl⟩
theorem cw_RX3_65 : Cond.methodLink RX3 65 yX3_readNot ∈ lw_gd ∧ Cond.instanceMethod yX3_readNot ∈ lw_gd ∧ Cond.selects yX3_readNot.cls yX3_readNot yX3_readNot ∈ lw_gd := ⟨wq_at wl6_ok 16 rfl, gd_at 418 (by decide +kernel) rfl, wq_at wl0_ok 9 rfl⟩
theorem cw_RX3_59 : Cond.methodLink RX3 59 yX3_readBoth ∈ lw_gd ∧ Cond.instanceMethod yX3_readBoth ∈ lw_gd ∧ Cond.selects yX3_readBoth.cls yX3_readBoth yX3_readBoth ∈ lw_gd := ⟨wq_at wl6_ok 15 rfl, gd_at 414 (by decide +kernel) rfl, wq_at wl0_ok 8 rfl⟩
theorem cw_RX3_53 : Cond.methodLink RX3 53 yX6_become ∈ lw_gd ∧ Cond.instanceMethod yX6_become ∈ lw_gd ∧ Cond.selects yX6_become.cls yX6_become yX6_become ∈ lw_gd := ⟨wq_at wl6_ok 22 rfl, gd_at 440 (by decide +kernel) rfl, wq_at wl6_ok 23 rfl⟩
theorem cw_RX4_22 : (RX4, 22, yX7_within, "NeverSeen") ∈ nstM ∧ Cond.static yX7_within ∈ lw_gd := ⟨(by decide +kernel), wq_at wl6_ok 21 rfl⟩
theorem cw_RX7_87 : Cond.methodLink RX7 87 yX7_within ∈ lw_gd ∧ Cond.static yX7_within ∈ lw_gd := ⟨wq_at wl7_ok 6 rfl, wq_at wl6_ok 21 rfl⟩
theorem cw_RX7_148 : Cond.methodLink RX7 148 yX2_roomListed ∈ lw_gd ∧ Cond.instanceMethod yX2_roomListed ∈ lw_gd ∧ Cond.selects yX2_roomListed.cls yX2_roomListed yX2_roomListed ∈ lw_gd := ⟨wq_at wl7_ok 12 rfl, gd_at 495 (by decide +kernel) rfl, wq_at wl7_ok 13 rfl⟩
theorem cw_RX7_135 : Cond.methodLink RX7 135 yX7_toldOfMaid ∈ lw_gd ∧ Cond.static yX7_toldOfMaid ∈ lw_gd := ⟨wq_at wl7_ok 10 rfl, wq_at wl7_ok 11 rfl⟩
theorem cw_RX7_94 : Cond.methodLink RX7 94 yX7_told ∈ lw_gd ∧ Cond.instanceMethod yX7_told ∈ lw_gd ∧ Cond.selects yX7_told.cls yX7_told yX7_told ∈ lw_gd := ⟨wq_at wl7_ok 8 rfl, gd_at 488 (by decide +kernel) rfl, wq_at wl7_ok 9 rfl⟩
theorem cw_RX7_98 : Cond.methodLink RX7 98 yX1_put ∈ lw_gd ∧ Cond.instanceMethod yX1_put ∈ lw_gd ∧ Cond.selects yX1_put.cls yX1_put yX1_put ∈ lw_gd := ⟨wq_at wl7_ok 14 rfl, gd_at 500 (by decide +kernel) rfl, wq_at wl7_ok 15 rfl⟩
theorem cw_RX7_118 : Cond.methodLink RX7 118 yX2_arrive ∈ lw_gd ∧ Cond.instanceMethod yX2_arrive ∈ lw_gd ∧ Cond.selects yX2_arrive.cls yX2_arrive yX2_arrive ∈ lw_gd := ⟨wq_at wl7_ok 17 rfl, gd_at 513 (by decide +kernel) rfl, wq_at wl7_ok 18 rfl⟩
theorem cw_RX7_152 : Cond.methodLink RX7 152 yX5_far ∈ lw_gd ∧ Cond.static yX5_far ∈ lw_gd := ⟨wq_at wl7_ok 19 rfl, wq_at wl7_ok 20 rfl⟩
theorem cw_RX7_158 : Cond.methodLink RX7 158 yX5_nextRoom ∈ lw_gd ∧ Cond.static yX5_nextRoom ∈ lw_gd := ⟨wq_at wl7_ok 23 rfl, wq_at wl7_ok 24 rfl⟩
theorem cw_RX7_76 : Cond.methodLink RX7 76 yX3_add ∈ lw_gd ∧ Cond.instanceMethod yX3_add ∈ lw_gd ∧ Cond.selects yX3_add.cls yX3_add yX3_add ∈ lw_gd := ⟨wq_at wl5_ok 25 rfl, gd_at 361 (by decide +kernel) rfl, wq_at wl5_ok 26 rfl⟩
theorem cw_RX7_80 : Cond.methodLink RX7 80 yX3_read ∈ lw_gd ∧ Cond.instanceMethod yX3_read ∈ lw_gd ∧ Cond.selects yX3_read.cls yX3_read yX3_read ∈ lw_gd := ⟨wq_at wl5_ok 27 rfl, gd_at 365 (by decide +kernel) rfl, wq_at wl5_ok 28 rfl⟩
theorem cw_RX7_167 : Cond.methodLink RX7 167 yX1_masterIn ∈ lw_gd ∧ Cond.instanceMethod yX1_masterIn ∈ lw_gd ∧ Cond.selects yX1_masterIn.cls yX1_masterIn yX1_masterIn ∈ lw_gd := ⟨wq_at wl7_ok 26 rfl, gd_at 559 (by decide +kernel) rfl, wq_at wl7_ok 27 rfl⟩
theorem cw_RX7_170 : Cond.methodLink RX7 170 yX7_longestFree ∈ lw_gd ∧ Cond.instanceMethod yX7_longestFree ∈ lw_gd ∧ Cond.selects yX7_longestFree.cls yX7_longestFree yX7_longestFree ∈ lw_gd := ⟨wq_at wl7_ok 28 rfl, gd_at 572 (by decide +kernel) rfl, wq_at wl0_ok 14 rfl⟩
theorem cw_RX7_173 : Cond.methodLink RX7 173 yX7_isAskedOfMorning ∈ lw_gd ∧ Cond.instanceMethod yX7_isAskedOfMorning ∈ lw_gd ∧ Cond.selects yX7_isAskedOfMorning.cls yX7_isAskedOfMorning yX7_isAskedOfMorning ∈ lw_gd := ⟨wq_at wl7_ok 29 rfl, gd_at 584 (by decide +kernel) rfl, wq_at wl0_ok 15 rfl⟩
theorem cw_RX7_176 : Cond.methodLink RX7 176 yX0_run ∈ lw_gd ∧ Cond.instanceMethod yX0_run ∈ lw_gd ∧ Cond.selects yX0_run.cls yX0_run yX0_run ∈ lw_gd := ⟨wq_at wl8_ok 0 rfl, gd_at 587 (by decide +kernel) rfl, wq_at wl8_ok 1 rfl⟩
theorem cw_RX7_184 : Cond.methodLink RX7 184 yX0_workLeft ∈ lw_gd ∧ Cond.instanceMethod yX0_workLeft ∈ lw_gd ∧ Cond.selects yX0_workLeft.cls yX0_workLeft yX0_workLeft ∈ lw_gd := ⟨wq_at wl9_ok 3 rfl, gd_at 657 (by decide +kernel) rfl, wq_at wl9_ok 4 rfl⟩
theorem cw_RX7_193 : Cond.methodLink RX7 193 yX0_dear ∈ lw_gd ∧ Cond.instanceMethod yX0_dear ∈ lw_gd ∧ Cond.selects yX0_dear.cls yX0_dear yX0_dear ∈ lw_gd := ⟨wq_at wl9_ok 6 rfl, gd_at 664 (by decide +kernel) rfl, wq_at wl9_ok 7 rfl⟩
theorem cw_RX7_181 : Cond.methodLink RX7 181 yX0_ofMaid ∈ lw_gd ∧ Cond.instanceMethod yX0_ofMaid ∈ lw_gd ∧ Cond.selects yX0_ofMaid.cls yX0_ofMaid yX0_ofMaid ∈ lw_gd := ⟨wq_at wl9_ok 1 rfl, gd_at 652 (by decide +kernel) rfl, wq_at wl9_ok 2 rfl⟩
theorem cw_RX7_207 : Cond.methodLink RX7 207 yX7_swapPlaces ∈ lw_gd ∧ Cond.instanceMethod yX7_swapPlaces ∈ lw_gd ∧ Cond.selects yX7_swapPlaces.cls yX7_swapPlaces yX7_swapPlaces ∈ lw_gd := ⟨wq_at wl9_ok 16 rfl, gd_at 691 (by decide +kernel) rfl, wq_at wl0_ok 22 rfl⟩
theorem cw_RX7_196 : Cond.methodLink RX7 196 yX7_firstOrder ∈ lw_gd ∧ Cond.instanceMethod yX7_firstOrder ∈ lw_gd ∧ Cond.selects yX7_firstOrder.cls yX7_firstOrder yX7_firstOrder ∈ lw_gd := ⟨wq_at wl9_ok 8 rfl, gd_at 673 (by decide +kernel) rfl, wq_at wl0_ok 20 rfl⟩
theorem cw_RX7_199 : Cond.methodLink RX7 199 yX1_become ∈ lw_gd ∧ Cond.instanceMethod yX1_become ∈ lw_gd ∧ Cond.selects yX1_become.cls yX1_become yX1_become ∈ lw_gd := ⟨wq_at wl9_ok 9 rfl, gd_at 676 (by decide +kernel) rfl, wq_at wl9_ok 10 rfl⟩
theorem cw_RX7_203 : Cond.methodLink RX7 203 yX7_nextOrder ∈ lw_gd ∧ Cond.instanceMethod yX7_nextOrder ∈ lw_gd ∧ Cond.selects yX7_nextOrder.cls yX7_nextOrder yX7_nextOrder ∈ lw_gd := ⟨wq_at wl9_ok 15 rfl, gd_at 687 (by decide +kernel) rfl, wq_at wl0_ok 21 rfl⟩
theorem cw_RX7_211 : Cond.methodLink RX7 211 yX1_leaveOut ∈ lw_gd ∧ Cond.instanceMethod yX1_leaveOut ∈ lw_gd ∧ Cond.selects yX1_leaveOut.cls yX1_leaveOut yX1_leaveOut ∈ lw_gd := ⟨wq_at wl9_ok 17 rfl, gd_at 702 (by decide +kernel) rfl, wq_at wl9_ok 18 rfl⟩
theorem cw_RX7_214 : Cond.methodLink RX7 214 yX4_isMissing ∈ lw_gd ∧ Cond.instanceMethod yX4_isMissing ∈ lw_gd ∧ Cond.selects yX4_isMissing.cls yX4_isMissing yX4_isMissing ∈ lw_gd := ⟨wq_at wl9_ok 19 rfl, gd_at 714 (by decide +kernel) rfl, wq_at wl9_ok 20 rfl⟩
theorem cw_RX7_218 : Cond.methodLink RX7 218 yX7_isTold ∈ lw_gd ∧ Cond.instanceMethod yX7_isTold ∈ lw_gd ∧ Cond.selects yX7_isTold.cls yX7_isTold yX7_isTold ∈ lw_gd := ⟨wq_at wl9_ok 21 rfl, gd_at 719 (by decide +kernel) rfl, wq_at wl0_ok 23 rfl⟩
theorem cw_RX7_232 : Cond.methodLink RX7 232 yX0_start ∈ lw_gd ∧ Cond.instanceMethod yX0_start ∈ lw_gd ∧ Cond.selects yX0_start.cls yX0_start yX0_start ∈ lw_gd := ⟨wq_at wl9_ok 24 rfl, gd_at 591 (by decide +kernel) rfl, wq_at wl8_ok 3 rfl⟩
theorem cw_RX7_235 : Cond.methodLink RX7 235 yX0_pass ∈ lw_gd ∧ Cond.instanceMethod yX0_pass ∈ lw_gd ∧ Cond.selects yX0_pass.cls yX0_pass yX0_pass ∈ lw_gd := ⟨wq_at wl9_ok 25 rfl, gd_at 601 (by decide +kernel) rfl, wq_at wl8_ok 9 rfl⟩
theorem cw_RX7_226 : Cond.methodLink RX7 226 yX7_doorChoices ∈ lw_gd ∧ Cond.instanceMethod yX7_doorChoices ∈ lw_gd ∧ Cond.selects yX7_doorChoices.cls yX7_doorChoices yX7_doorChoices ∈ lw_gd := ⟨wq_at wl9_ok 22 rfl, gd_at 727 (by decide +kernel) rfl, wq_at wl0_ok 24 rfl⟩
theorem cw_RX7_229 : Cond.methodLink RX7 229 yX7_isSeenFromDoor ∈ lw_gd ∧ Cond.instanceMethod yX7_isSeenFromDoor ∈ lw_gd ∧ Cond.selects yX7_isSeenFromDoor.cls yX7_isSeenFromDoor yX7_isSeenFromDoor ∈ lw_gd := ⟨wq_at wl9_ok 23 rfl, gd_at 731 (by decide +kernel) rfl, wq_at wl0_ok 25 rfl⟩
theorem cw_RX7_241 : Cond.methodLink RX7 241 yX4_become ∈ lw_gd ∧ Cond.instanceMethod yX4_become ∈ lw_gd ∧ Cond.selects yX4_become.cls yX4_become yX4_become ∈ lw_gd := ⟨wq_at wl9_ok 26 rfl, gd_at 740 (by decide +kernel) rfl, wq_at wl9_ok 27 rfl⟩
theorem cw_RX7_243 : Cond.methodLink RX7 243 yX4_put ∈ lw_gd ∧ Cond.instanceMethod yX4_put ∈ lw_gd ∧ Cond.selects yX4_put.cls yX4_put yX4_put ∈ lw_gd := ⟨wq_at wl9_ok 28 rfl, gd_at 744 (by decide +kernel) rfl, wq_at wl9_ok 29 rfl⟩
theorem cw_RX7_245 : Cond.methodLink RX7 245 yX1_draw ∈ lw_gd ∧ Cond.instanceMethod yX1_draw ∈ lw_gd ∧ Cond.selects yX1_draw.cls yX1_draw yX1_draw ∈ lw_gd := ⟨wq_at wl10_ok 0 rfl, gd_at 753 (by decide +kernel) rfl, wq_at wl10_ok 1 rfl⟩
theorem cw_RX7_253 : Cond.methodLink RX7 253 yX7_inLowestTerms ∈ lw_gd ∧ Cond.static yX7_inLowestTerms ∈ lw_gd := ⟨wq_at wl10_ok 6 rfl, wq_at wl10_ok 7 rfl⟩
theorem cw_RX7_250 : Cond.methodLink RX7 250 yX0_isAnySeen ∈ lw_gd ∧ Cond.instanceMethod yX0_isAnySeen ∈ lw_gd ∧ Cond.selects yX0_isAnySeen.cls yX0_isAnySeen yX0_isAnySeen ∈ lw_gd := ⟨wq_at wl10_ok 4 rfl, gd_at 763 (by decide +kernel) rfl, wq_at wl10_ok 5 rfl⟩
theorem cw_RX7_256 : Cond.methodLink RX7 256 yX7_sum ∈ lw_gd ∧ Cond.static yX7_sum ∈ lw_gd := ⟨wq_at wl10_ok 8 rfl, wq_at wl9_ok 5 rfl⟩
theorem cw_RX7_263 : Cond.methodLink RX7 263 yX4_has ∈ lw_gd ∧ Cond.instanceMethod yX4_has ∈ lw_gd ∧ Cond.selects yX4_has.cls yX4_has yX4_has ∈ lw_gd := ⟨wq_at wl10_ok 9 rfl, gd_at 795 (by decide +kernel) rfl, wq_at wl10_ok 10 rfl⟩
theorem cw_RX7_272 : Cond.methodLink RX7 272 yX7_maid ∈ lw_gd ∧ Cond.instanceMethod yX7_maid ∈ lw_gd ∧ Cond.selects yX7_maid.cls yX7_maid yX7_maid ∈ lw_gd := ⟨wq_at wl10_ok 12 rfl, gd_at 509 (by decide +kernel) rfl, wq_at wl7_ok 16 rfl⟩
theorem cw_RX7_274 : Cond.methodLink RX7 274 yX2_isOfKind ∈ lw_gd ∧ Cond.instanceMethod yX2_isOfKind ∈ lw_gd ∧ Cond.selects yX2_isOfKind.cls yX2_isOfKind yX2_isOfKind ∈ lw_gd := ⟨wq_at wl10_ok 13 rfl, gd_at 809 (by decide +kernel) rfl, wq_at wl10_ok 14 rfl⟩
theorem cw_RX8_114 : Cond.methodLink RX8 114 yX8_in ∈ lw_gd ∧ Cond.static yX8_in ∈ lw_gd := ⟨wq_at wl12_ok 14 rfl, wq_at wl12_ok 15 rfl⟩
theorem cw_RX8_124 : Cond.methodLink RX8 124 yX8_isRoom ∈ lw_gd ∧ Cond.static yX8_isRoom ∈ lw_gd := ⟨wq_at wl12_ok 17 rfl, wq_at wl12_ok 18 rfl⟩
theorem cw_RX8_131 : Cond.methodLink RX8 131 yX8_isMaid ∈ lw_gd ∧ Cond.instanceMethod yX8_isMaid ∈ lw_gd ∧ Cond.selects yX8_isMaid.cls yX8_isMaid yX8_isMaid ∈ lw_gd := ⟨wq_at wl12_ok 21 rfl, gd_at 1024 (by decide +kernel) rfl, wq_at wl0_ok 28 rfl⟩
theorem cw_RX8_128 : Cond.methodLink RX8 128 yX8_isStay ∈ lw_gd ∧ Cond.instanceMethod yX8_isStay ∈ lw_gd ∧ Cond.selects yX8_isStay.cls yX8_isStay yX8_isStay ∈ lw_gd := ⟨wq_at wl12_ok 20 rfl, gd_at 1020 (by decide +kernel) rfl, wq_at wl0_ok 27 rfl⟩
theorem cw_RX8_136 : Cond.methodLink RX8 136 yX8_isOf ∈ lw_gd ∧ Cond.instanceMethod yX8_isOf ∈ lw_gd ∧ Cond.selects yX8_isOf.cls yX8_isOf yX8_isOf ∈ lw_gd := ⟨wq_at wl12_ok 16 rfl, gd_at 1012 (by decide +kernel) rfl, wq_at wl0_ok 26 rfl⟩
theorem cw_RX8_148 : Cond.methodLink RX8 148 yX8_told ∈ lw_gd ∧ Cond.instanceMethod yX8_told ∈ lw_gd ∧ Cond.selects yX8_told.cls yX8_told yX8_told ∈ lw_gd := ⟨wq_at wl12_ok 26 rfl, gd_at 1031 (by decide +kernel) rfl, wq_at wl12_ok 27 rfl⟩
theorem cw_RX8_152 : Cond.methodLink RX8 152 yX8_lays ∈ lw_gd ∧ Cond.instanceMethod yX8_lays ∈ lw_gd ∧ Cond.selects yX8_lays.cls yX8_lays yX8_lays ∈ lw_gd := ⟨wq_at wl13_ok 0 rfl, gd_at 1038 (by decide +kernel) rfl, wq_at wl0_ok 29 rfl⟩
theorem cw_RX8_160 : Cond.methodLink RX8 160 yX8_isBeside ∈ lw_gd ∧ Cond.instanceMethod yX8_isBeside ∈ lw_gd ∧ Cond.selects yX8_isBeside.cls yX8_isBeside yX8_isBeside ∈ lw_gd := ⟨wq_at wl13_ok 3 rfl, gd_at 1067 (by decide +kernel) rfl, wq_at wl1_ok 1 rfl⟩
theorem cw_RX8_163 : Cond.methodLink RX8 163 yX8_gathers ∈ lw_gd ∧ Cond.instanceMethod yX8_gathers ∈ lw_gd ∧ Cond.selects yX8_gathers.cls yX8_gathers yX8_gathers ∈ lw_gd := ⟨wq_at wl13_ok 2 rfl, gd_at 1063 (by decide +kernel) rfl, wq_at wl1_ok 0 rfl⟩
theorem cw_RX8_166 : Cond.methodLink RX8 166 yX8_nextTo ∈ lw_gd ∧ Cond.instanceMethod yX8_nextTo ∈ lw_gd ∧ Cond.selects yX8_nextTo.cls yX8_nextTo yX8_nextTo ∈ lw_gd := ⟨wq_at wl13_ok 4 rfl, gd_at 1071 (by decide +kernel) rfl, wq_at wl1_ok 2 rfl⟩
theorem cw_RX8_169 : Cond.methodLink RX8 169 yX8_masterIn ∈ lw_gd ∧ Cond.instanceMethod yX8_masterIn ∈ lw_gd ∧ Cond.selects yX8_masterIn.cls yX8_masterIn yX8_masterIn ∈ lw_gd := ⟨wq_at wl13_ok 5 rfl, gd_at 1079 (by decide +kernel) rfl, wq_at wl1_ok 3 rfl⟩
theorem cw_RX8_176 : Cond.methodLink RX8 176 yX8_longestOf ∈ lw_gd ∧ Cond.instanceMethod yX8_longestOf ∈ lw_gd ∧ Cond.selects yX8_longestOf.cls yX8_longestOf yX8_longestOf ∈ lw_gd := ⟨wq_at wl13_ok 6 rfl, gd_at 1091 (by decide +kernel) rfl, wq_at wl1_ok 4 rfl⟩
theorem cw_RX8_195 : Cond.methodLink RX8 195 yX8_byteAt ∈ lw_gd ∧ Cond.instanceMethod yX8_byteAt ∈ lw_gd ∧ Cond.selects yX8_byteAt.cls yX8_byteAt yX8_byteAt ∈ lw_gd := ⟨wq_at wl13_ok 11 rfl, gd_at 1117 (by decide +kernel) rfl, wq_at wl1_ok 7 rfl⟩
theorem cw_RX8_223 : Cond.methodLink RX8 223 yX8_isLetter ∈ lw_gd ∧ Cond.instanceMethod yX8_isLetter ∈ lw_gd ∧ Cond.selects yX8_isLetter.cls yX8_isLetter yX8_isLetter ∈ lw_gd := ⟨wq_at wl13_ok 17 rfl, gd_at 1129 (by decide +kernel) rfl, wq_at wl1_ok 9 rfl⟩
theorem cw_RX8_229 : Cond.methodLink RX8 229 yX8_fail ∈ lw_gd ∧ Cond.instanceMethod yX8_fail ∈ lw_gd ∧ Cond.selects yX8_fail.cls yX8_fail yX8_fail ∈ lw_gd := ⟨wq_at wl13_ok 19 rfl, gd_at 1137 (by decide +kernel) rfl, wq_at wl1_ok 11 rfl⟩
theorem cw_RX8_232 : Cond.methodLink RX8 232 yX8_next ∈ lw_gd ∧ Cond.instanceMethod yX8_next ∈ lw_gd ∧ Cond.selects yX8_next.cls yX8_next yX8_next ∈ lw_gd := ⟨wq_at wl13_ok 10 rfl, gd_at 1113 (by decide +kernel) rfl, wq_at wl1_ok 6 rfl⟩
theorem cw_RX8_235 : Cond.methodLink RX8 235 yX8_isWord ∈ lw_gd ∧ Cond.instanceMethod yX8_isWord ∈ lw_gd ∧ Cond.selects yX8_isWord.cls yX8_isWord yX8_isWord ∈ lw_gd := ⟨wq_at wl13_ok 16 rfl, gd_at 1125 (by decide +kernel) rfl, wq_at wl1_ok 8 rfl⟩
theorem cw_RX8_264 : Cond.methodLink RX8 264 yX8_atom ∈ lw_gd ∧ Cond.instanceMethod yX8_atom ∈ lw_gd ∧ Cond.selects yX8_atom.cls yX8_atom yX8_atom ∈ lw_gd := ⟨wq_at wl13_ok 26 rfl, gd_at 1165 (by decide +kernel) rfl, wq_at wl1_ok 18 rfl⟩
theorem cw_RX8_257 : Cond.methodLink RX8 257 yX8_isSign ∈ lw_gd ∧ Cond.instanceMethod yX8_isSign ∈ lw_gd ∧ Cond.selects yX8_isSign.cls yX8_isSign yX8_isSign ∈ lw_gd := ⟨wq_at wl13_ok 27 rfl, gd_at 1169 (by decide +kernel) rfl, wq_at wl1_ok 19 rfl⟩
theorem cw_RX8_274 : Cond.methodLink RX8 274 yX8_term ∈ lw_gd ∧ Cond.instanceMethod yX8_term ∈ lw_gd ∧ Cond.selects yX8_term.cls yX8_term yX8_term ∈ lw_gd := ⟨wq_at wl13_ok 25 rfl, gd_at 1161 (by decide +kernel) rfl, wq_at wl1_ok 17 rfl⟩
theorem cw_RX8_282 : Cond.methodLink RX8 282 yX8_added ∈ lw_gd ∧ Cond.instanceMethod yX8_added ∈ lw_gd ∧ Cond.selects yX8_added.cls yX8_added yX8_added ∈ lw_gd := ⟨wq_at wl13_ok 24 rfl, gd_at 1157 (by decide +kernel) rfl, wq_at wl1_ok 16 rfl⟩
theorem cw_RX8_260 : Cond.methodLink RX8 260 yX8_opens ∈ lw_gd ∧ Cond.instanceMethod yX8_opens ∈ lw_gd ∧ Cond.selects yX8_opens.cls yX8_opens yX8_opens ∈ lw_gd := ⟨wq_at wl13_ok 23 rfl, gd_at 1153 (by decide +kernel) rfl, wq_at wl1_ok 15 rfl⟩
theorem cw_RX8_279 : Cond.methodLink RX8 279 yX8_not ∈ lw_gd ∧ Cond.instanceMethod yX8_not ∈ lw_gd ∧ Cond.selects yX8_not.cls yX8_not yX8_not ∈ lw_gd := ⟨wq_at wl13_ok 22 rfl, gd_at 1149 (by decide +kernel) rfl, wq_at wl1_ok 14 rfl⟩
theorem cw_RX8_287 : Cond.methodLink RX8 287 yX8_both ∈ lw_gd ∧ Cond.instanceMethod yX8_both ∈ lw_gd ∧ Cond.selects yX8_both.cls yX8_both yX8_both ∈ lw_gd := ⟨wq_at wl13_ok 21 rfl, gd_at 1145 (by decide +kernel) rfl, wq_at wl1_ok 13 rfl⟩
theorem cw_RX8_271 : Cond.methodLink RX8 271 yX8_name ∈ lw_gd ∧ Cond.instanceMethod yX8_name ∈ lw_gd ∧ Cond.selects yX8_name.cls yX8_name yX8_name ∈ lw_gd := ⟨wq_at wl13_ok 28 rfl, gd_at 1173 (by decide +kernel) rfl, wq_at wl1_ok 20 rfl⟩
theorem cw_RX8_268 : Cond.methodLink RX8 268 yX8_either ∈ lw_gd ∧ Cond.instanceMethod yX8_either ∈ lw_gd ∧ Cond.selects yX8_either.cls yX8_either yX8_either ∈ lw_gd := ⟨wq_at wl13_ok 20 rfl, gd_at 1141 (by decide +kernel) rfl, wq_at wl1_ok 12 rfl⟩
theorem cw_RX8_290 : Cond.methodLink RX8 290 yX8_part ∈ lw_gd ∧ Cond.instanceMethod yX8_part ∈ lw_gd ∧ Cond.selects yX8_part.cls yX8_part yX8_part ∈ lw_gd := ⟨wq_at wl13_ok 18 rfl, gd_at 1133 (by decide +kernel) rfl, wq_at wl1_ok 10 rfl⟩
theorem cw_RX8_294 : Cond.methodLink RX8 294 yX8_read ∈ lw_gd ∧ Cond.instanceMethod yX8_read ∈ lw_gd ∧ Cond.selects yX8_read.cls yX8_read yX8_read ∈ lw_gd := ⟨wq_at wl13_ok 9 rfl, gd_at 1109 (by decide +kernel) rfl, wq_at wl1_ok 5 rfl⟩
theorem cw_RX8_300 : Cond.methodLink RX8 300 yX8_within ∈ lw_gd ∧ Cond.static yX8_within ∈ lw_gd := ⟨wq_at wl14_ok 8 rfl, wq_at wl14_ok 9 rfl⟩
theorem cw_RX8_310 : Cond.methodLink RX8 310 yX8_aimOf ∈ lw_gd ∧ Cond.instanceMethod yX8_aimOf ∈ lw_gd ∧ Cond.selects yX8_aimOf.cls yX8_aimOf yX8_aimOf ∈ lw_gd := ⟨wq_at wl14_ok 6 rfl, gd_at 1204 (by decide +kernel) rfl, wq_at wl1_ok 25 rfl⟩
theorem cw_RX8_313 : Cond.methodLink RX8 313 yX8_says ∈ lw_gd ∧ Cond.instanceMethod yX8_says ∈ lw_gd ∧ Cond.selects yX8_says.cls yX8_says yX8_says ∈ lw_gd := ⟨wq_at wl14_ok 7 rfl, gd_at 1208 (by decide +kernel) rfl, wq_at wl1_ok 26 rfl⟩
theorem cw_RX8_317 : Cond.methodLink RX8 317 yX8_worksOf ∈ lw_gd ∧ Cond.instanceMethod yX8_worksOf ∈ lw_gd ∧ Cond.selects yX8_worksOf.cls yX8_worksOf yX8_worksOf ∈ lw_gd := ⟨wq_at wl14_ok 10 rfl, gd_at 1215 (by decide +kernel) rfl, wq_at wl1_ok 27 rfl⟩
theorem cw_RX8_320 : Cond.methodLink RX8 320 yX8_takesOf ∈ lw_gd ∧ Cond.instanceMethod yX8_takesOf ∈ lw_gd ∧ Cond.selects yX8_takesOf.cls yX8_takesOf yX8_takesOf ∈ lw_gd := ⟨wq_at wl14_ok 11 rfl, gd_at 1219 (by decide +kernel) rfl, wq_at wl1_ok 28 rfl⟩
theorem cw_RX8_327 : Cond.methodLink RX8 327 yX8_isReady ∈ lw_gd ∧ Cond.instanceMethod yX8_isReady ∈ lw_gd ∧ Cond.selects yX8_isReady.cls yX8_isReady yX8_isReady ∈ lw_gd := ⟨wq_at wl14_ok 12 rfl, gd_at 1223 (by decide +kernel) rfl, wq_at wl1_ok 29 rfl⟩
theorem cw_RX8_323 : Cond.methodLink RX8 323 yX8_acts ∈ lw_gd ∧ Cond.instanceMethod yX8_acts ∈ lw_gd ∧ Cond.selects yX8_acts.cls yX8_acts yX8_acts ∈ lw_gd := ⟨wq_at wl14_ok 5 rfl, gd_at 1200 (by decide +kernel) rfl, wq_at wl1_ok 24 rfl⟩
theorem cw_RX8_330 : Cond.methodLink RX8 330 yX8_startsOff ∈ lw_gd ∧ Cond.instanceMethod yX8_startsOff ∈ lw_gd ∧ Cond.selects yX8_startsOff.cls yX8_startsOff yX8_startsOff ∈ lw_gd := ⟨wq_at wl14_ok 3 rfl, gd_at 1192 (by decide +kernel) rfl, wq_at wl1_ok 22 rfl⟩
theorem cw_RX8_333 : Cond.methodLink RX8 333 yX8_lives ∈ lw_gd ∧ Cond.instanceMethod yX8_lives ∈ lw_gd ∧ Cond.selects yX8_lives.cls yX8_lives yX8_lives ∈ lw_gd := ⟨wq_at wl14_ok 4 rfl, gd_at 1196 (by decide +kernel) rfl, wq_at wl1_ok 23 rfl⟩
theorem cw_RX8_337 : Cond.methodLink RX8 337 yX8_livesAll ∈ lw_gd ∧ Cond.instanceMethod yX8_livesAll ∈ lw_gd ∧ Cond.selects yX8_livesAll.cls yX8_livesAll yX8_livesAll ∈ lw_gd := ⟨wq_at wl14_ok 2 rfl, gd_at 1188 (by decide +kernel) rfl, wq_at wl1_ok 21 rfl⟩
theorem cw_RX8_340 : Cond.methodLink RX8 340 yX8_leftAll ∈ lw_gd ∧ Cond.instanceMethod yX8_leftAll ∈ lw_gd ∧ Cond.selects yX8_leftAll.cls yX8_leftAll yX8_leftAll ∈ lw_gd := ⟨wq_at wl14_ok 13 rfl, gd_at 1227 (by decide +kernel) rfl, wq_at wl2_ok 0 rfl⟩
theorem cw_RX8_345 : Cond.methodLink RX8 345 yX8_dear ∈ lw_gd ∧ Cond.instanceMethod yX8_dear ∈ lw_gd ∧ Cond.selects yX8_dear.cls yX8_dear yX8_dear ∈ lw_gd := ⟨wq_at wl14_ok 15 rfl, gd_at 1239 (by decide +kernel) rfl, wq_at wl2_ok 2 rfl⟩
theorem cw_RX8_354 : Cond.methodLink RX8 354 yX8_orders ∈ lw_gd ∧ Cond.instanceMethod yX8_orders ∈ lw_gd ∧ Cond.selects yX8_orders.cls yX8_orders yX8_orders ∈ lw_gd := ⟨wq_at wl14_ok 14 rfl, gd_at 1235 (by decide +kernel) rfl, wq_at wl2_ok 1 rfl⟩
theorem cw_RX8_357 : Cond.methodLink RX8 357 yX8_isSheet ∈ lw_gd ∧ Cond.static yX8_isSheet ∈ lw_gd := ⟨wq_at wl14_ok 16 rfl, wq_at wl14_ok 17 rfl⟩
theorem cw_RX8_362 : Cond.methodLink RX8 362 yX8_isSo ∈ lw_gd ∧ Cond.instanceMethod yX8_isSo ∈ lw_gd ∧ Cond.selects yX8_isSo.cls yX8_isSo yX8_isSo ∈ lw_gd := ⟨wq_at wl14_ok 19 rfl, gd_at 1267 (by decide +kernel) rfl, wq_at wl2_ok 3 rfl⟩
theorem cw_RX8_365 : Cond.methodLink RX8 365 yX8_tries ∈ lw_gd ∧ Cond.instanceMethod yX8_tries ∈ lw_gd ∧ Cond.selects yX8_tries.cls yX8_tries yX8_tries ∈ lw_gd := ⟨wq_at wl14_ok 20 rfl, gd_at 1271 (by decide +kernel) rfl, wq_at wl2_ok 4 rfl⟩
theorem cw_RX8_370 : Cond.methodLink RX8 370 yX8_sheet ∈ lw_gd ∧ Cond.instanceMethod yX8_sheet ∈ lw_gd ∧ Cond.selects yX8_sheet.cls yX8_sheet yX8_sheet ∈ lw_gd := ⟨wq_at wl14_ok 22 rfl, gd_at 1279 (by decide +kernel) rfl, wq_at wl14_ok 23 rfl⟩
theorem cw_RX8_374 : Cond.methodLink RX8 374 yX8_draws ∈ lw_gd ∧ Cond.instanceMethod yX8_draws ∈ lw_gd ∧ Cond.selects yX8_draws.cls yX8_draws yX8_draws ∈ lw_gd := ⟨wq_at wl14_ok 26 rfl, gd_at 1290 (by decide +kernel) rfl, wq_at wl2_ok 5 rfl⟩
theorem cw_RX8_396 : Cond.methodLink RX8 396 yX8_maid ∈ lw_gd ∧ Cond.instanceMethod yX8_maid ∈ lw_gd ∧ Cond.selects yX8_maid.cls yX8_maid yX8_maid ∈ lw_gd := ⟨wq_at wl15_ok 1 rfl, gd_at 1045 (by decide +kernel) rfl, wq_at wl13_ok 1 rfl⟩
theorem cw_RX8_399 : Cond.methodLink RX8 399 yX8_over ∈ lw_gd ∧ Cond.static yX8_over ∈ lw_gd := ⟨wq_at wl15_ok 2 rfl, wq_at wl15_ok 3 rfl⟩
theorem mf_X0_isAllDone : MF yX0_isAllDone cX0_isAllDone 2 (some .boolean) 0 := ⟨gd_of (tbi3 (List.mem_of_getElem? (i := 103) rfl)) rfl, wq_at wl2_ok 10 rfl, by decide +kernel, rfl, by decide⟩
theorem mf_X0_othersWith : MF yX0_othersWith cX0_othersWith 4 (some .int) 1 := ⟨gd_of (tbi3 (List.mem_of_getElem? (i := 70) rfl)) rfl, wq_at wl2_ok 10 rfl, by decide +kernel, rfl, by decide⟩
theorem mf_X6_joined : MF yX6_joined cX6_joined 3 (some .int) 3 := ⟨gd_of (tbi3 (List.mem_of_getElem? (i := 77) rfl)) rfl, wq_at wl2_ok 12 rfl, by decide +kernel, rfl, by decide⟩
theorem mf_X6_value : MF yX6_value cX6_value 7 (some .int) 3 := ⟨gd_of (tbi3 (List.mem_of_getElem? (i := 74) rfl)) rfl, wq_at wl2_ok 12 rfl, by decide +kernel, rfl, by decide⟩
theorem mf_X0_tells : MF yX0_tells cX0_tells 6 (some .int) 4 := ⟨gd_of (tbi3 (List.mem_of_getElem? (i := 66) rfl)) rfl, wq_at wl2_ok 10 rfl, by decide +kernel, rfl, by decide⟩
theorem mf_X2_dares : MF yX2_dares cX2_dares 2 (some .boolean) 1 := ⟨gd_of (tbi3 (List.mem_of_getElem? (i := 95) rfl)) rfl, wq_at wl2_ok 8 rfl, by decide +kernel, rfl, by decide⟩
theorem mf_X7_within : MF yX7_within cX7_within 2 (some .boolean) 2 := ⟨gd_of (tbi2 (List.mem_of_getElem? (i := 131) rfl)) rfl, wq_at wl2_ok 6 rfl, by decide +kernel, rfl, by decide⟩
theorem mf_X2_roomListed : MF yX2_roomListed cX2_roomListed 2 (some .int) 1 := ⟨gd_of (tbi2 (List.mem_of_getElem? (i := 190) rfl)) rfl, wq_at wl2_ok 8 rfl, by decide +kernel, rfl, by decide⟩
theorem mf_X2_takes : MF yX2_takes cX2_takes 2 (some .int) 1 := ⟨gd_of (tbi3 (List.mem_of_getElem? (i := 99) rfl)) rfl, wq_at wl2_ok 8 rfl, by decide +kernel, rfl, by decide⟩
theorem mf_X2_works : MF yX2_works cX2_works 2 (some .int) 1 := ⟨gd_of (tbi3 (List.mem_of_getElem? (i := 85) rfl)) rfl, wq_at wl2_ok 8 rfl, by decide +kernel, rfl, by decide⟩
theorem mf_X5_nextLaid : MF yX5_nextLaid cX5_nextLaid 3 (some .int) 2 := ⟨gd_of (tbi3 (List.mem_of_getElem? (i := 90) rfl)) rfl, wq_at wl2_ok 11 rfl, by decide +kernel, rfl, by decide⟩
theorem mf_X0_turn : MF yX0_turn cX0_turn 8 none 3 := ⟨gd_of (tbi3 (List.mem_of_getElem? (i := 61) rfl)) rfl, wq_at wl2_ok 10 rfl, by decide +kernel, rfl, by decide⟩
theorem mf_X1_masterIn : MF yX1_masterIn cX1_masterIn 5 (some .int) 1 := ⟨gd_of (tbi3 (List.mem_of_getElem? (i := 14) rfl)) rfl, wq_at wl2_ok 7 rfl, by decide +kernel, rfl, by decide⟩
theorem mf_X0_pass : MF yX0_pass cX0_pass 4 none 1 := ⟨gd_of (tbi3 (List.mem_of_getElem? (i := 56) rfl)) rfl, wq_at wl2_ok 10 rfl, by decide +kernel, rfl, by decide⟩
theorem mf_X5_far : MF yX5_far cX5_far 5 (some .int) 3 := ⟨gd_of (tbi2 (List.mem_of_getElem? (i := 224) rfl)) rfl, wq_at wl2_ok 11 rfl, by decide +kernel, rfl, by decide⟩
theorem mf_X5_nextRoom : MF yX5_nextRoom cX5_nextRoom 6 (some .int) 3 := ⟨gd_of (tbi2 (List.mem_of_getElem? (i := 233) rfl)) rfl, wq_at wl2_ok 11 rfl, by decide +kernel, rfl, by decide⟩
theorem mf_X5_lay : MF yX5_lay cX5_lay 3 none 1 := ⟨gd_of (tbi3 (List.mem_of_getElem? (i := 50) rfl)) rfl, wq_at wl2_ok 11 rfl, by decide +kernel, rfl, by decide⟩
theorem mf_X0_start : MF yX0_start cX0_start 5 none 1 := ⟨gd_of (tbi3 (List.mem_of_getElem? (i := 46) rfl)) rfl, wq_at wl2_ok 10 rfl, by decide +kernel, rfl, by decide⟩
theorem mf_X0_run : MF yX0_run cX0_run 4 none 2 := ⟨gd_of (tbi3 (List.mem_of_getElem? (i := 42) rfl)) rfl, wq_at wl2_ok 10 rfl, by decide +kernel, rfl, by decide⟩
theorem mf_X7_sum : MF yX7_sum cX7_sum 3 (some .int) 1 := ⟨gd_of (tbi3 (List.mem_of_getElem? (i := 115) rfl)) rfl, wq_at wl2_ok 6 rfl, by decide +kernel, rfl, by decide⟩
theorem mf_X0_workLeft : MF yX0_workLeft cX0_workLeft 1 (some .int) 0 := ⟨gd_of (tbi3 (List.mem_of_getElem? (i := 112) rfl)) rfl, wq_at wl2_ok 10 rfl, by decide +kernel, rfl, by decide⟩
theorem mf_X0_dear : MF yX0_dear cX0_dear 1 (some .int) 0 := ⟨gd_of (tbi3 (List.mem_of_getElem? (i := 119) rfl)) rfl, wq_at wl2_ok 10 rfl, by decide +kernel, rfl, by decide⟩
theorem mf_X0_isAnySeen : MF yX0_isAnySeen cX0_isAnySeen 2 (some .boolean) 0 := ⟨gd_of (tbi3 (List.mem_of_getElem? (i := 218) rfl)) rfl, wq_at wl2_ok 10 rfl, by decide +kernel, rfl, by decide⟩
theorem mf_X0_ofMaid : MF yX0_ofMaid cX0_ofMaid 3 (some .int) 2 := ⟨gd_of (tbi3 (List.mem_of_getElem? (i := 107) rfl)) rfl, wq_at wl2_ok 10 rfl, by decide +kernel, rfl, by decide⟩
theorem mf_X2_become : MF yX2_become cX2_become 2 none 1 := ⟨gd_of (tbi3 (List.mem_of_getElem? (i := 136) rfl)) rfl, wq_at wl2_ok 8 rfl, by decide +kernel, rfl, by decide⟩
theorem mf_X1_become : MF yX1_become cX1_become 3 none 1 := ⟨gd_of (tbi3 (List.mem_of_getElem? (i := 131) rfl)) rfl, wq_at wl2_ok 7 rfl, by decide +kernel, rfl, by decide⟩
theorem mf_X1_put : MF yX1_put cX1_put 4 none 3 := ⟨gd_of (tbi2 (List.mem_of_getElem? (i := 195) rfl)) rfl, wq_at wl2_ok 7 rfl, by decide +kernel, rfl, by decide⟩
theorem mf_X1_leaveOut : MF yX1_leaveOut cX1_leaveOut 3 none 1 := ⟨gd_of (tbi3 (List.mem_of_getElem? (i := 157) rfl)) rfl, wq_at wl2_ok 7 rfl, by decide +kernel, rfl, by decide⟩
theorem mf_X1_draw : MF yX1_draw cX1_draw 4 none 1 := ⟨gd_of (tbi3 (List.mem_of_getElem? (i := 208) rfl)) rfl, wq_at wl2_ok 7 rfl, by decide +kernel, rfl, by decide⟩
theorem mf_X2_arrive : MF yX2_arrive cX2_arrive 4 none 3 := ⟨gd_of (tbi2 (List.mem_of_getElem? (i := 208) rfl)) rfl, wq_at wl2_ok 8 rfl, by decide +kernel, rfl, by decide⟩
theorem mf_X2_isOfKind : MF yX2_isOfKind cX2_isOfKind 4 (some .boolean) 1 := ⟨gd_of (tbi4 (List.mem_of_getElem? (i := 24) rfl)) rfl, wq_at wl2_ok 8 rfl, by decide +kernel, rfl, by decide⟩
theorem mf_X3_add : MF yX3_add cX3_add 2 (some .boolean) 1 := ⟨gd_of (tbi2 (List.mem_of_getElem? (i := 56) rfl)) rfl, wq_at wl2_ok 9 rfl, by decide +kernel, rfl, by decide⟩
theorem mf_X3_isDigit : MF yX3_isDigit cX3_isDigit 1 (some .boolean) 1 := ⟨gd_of (tbi2 (List.mem_of_getElem? (i := 89) rfl)) rfl, wq_at wl2_ok 9 rfl, by decide +kernel, rfl, by decide⟩
theorem mf_X3_isLetter : MF yX3_isLetter cX3_isLetter 1 (some .boolean) 1 := ⟨gd_of (tbi2 (List.mem_of_getElem? (i := 67) rfl)) rfl, wq_at wl2_ok 9 rfl, by decide +kernel, rfl, by decide⟩
theorem mf_X3_isSign : MF yX3_isSign cX3_isSign 1 (some .boolean) 1 := ⟨gd_of (tbi2 (List.mem_of_getElem? (i := 96) rfl)) rfl, wq_at wl2_ok 9 rfl, by decide +kernel, rfl, by decide⟩
theorem mf_X3_refuse : MF yX3_refuse cX3_refuse 1 none 0 := ⟨gd_of (tbi2 (List.mem_of_getElem? (i := 86) rfl)) rfl, wq_at wl2_ok 9 rfl, by decide +kernel, rfl, by decide⟩
theorem mf_X3_takeNumber : MF yX3_takeNumber cX3_takeNumber 1 none 0 := ⟨gd_of (tbi2 (List.mem_of_getElem? (i := 93) rfl)) rfl, wq_at wl2_ok 9 rfl, by decide +kernel, rfl, by decide⟩
theorem mf_X3_isOnTape : MF yX3_isOnTape cX3_isOnTape 4 (some .boolean) 2 := ⟨gd_of (tbi2 (List.mem_of_getElem? (i := 82) rfl)) rfl, wq_at wl2_ok 9 rfl, by decide +kernel, rfl, by decide⟩
theorem mf_X3_wordOnTape : MF yX3_wordOnTape cX3_wordOnTape 4 (some .int) 0 := ⟨gd_of (tbi2 (List.mem_of_getElem? (i := 75) rfl)) rfl, wq_at wl2_ok 9 rfl, by decide +kernel, rfl, by decide⟩
theorem mf_X3_takeWord : MF yX3_takeWord cX3_takeWord 1 none 0 := ⟨gd_of (tbi2 (List.mem_of_getElem? (i := 71) rfl)) rfl, wq_at wl2_ok 9 rfl, by decide +kernel, rfl, by decide⟩
theorem mf_X3_advance : MF yX3_advance cX3_advance 1 none 0 := ⟨gd_of (tbi2 (List.mem_of_getElem? (i := 64) rfl)) rfl, wq_at wl2_ok 9 rfl, by decide +kernel, rfl, by decide⟩
theorem mf_X3_expect : MF yX3_expect cX3_expect 2 none 1 := ⟨gd_of (tbi2 (List.mem_of_getElem? (i := 100) rfl)) rfl, wq_at wl2_ok 9 rfl, by decide +kernel, rfl, by decide⟩
theorem mf_X3_write : MF yX3_write cX3_write 2 none 1 := ⟨gd_of (tbi2 (List.mem_of_getElem? (i := 116) rfl)) rfl, wq_at wl2_ok 9 rfl, by decide +kernel, rfl, by decide⟩
theorem mf_X3_readEither : MF yX3_readEither cX3_readEither 3 none 1 := ⟨gd_of (tbi2 (List.mem_of_getElem? (i := 104) rfl)) rfl, wq_at wl2_ok 9 rfl, by decide +kernel, rfl, by decide⟩
theorem mf_X3_readOne : MF yX3_readOne cX3_readOne 2 none 1 := ⟨gd_of (tbi2 (List.mem_of_getElem? (i := 128) rfl)) rfl, wq_at wl2_ok 9 rfl, by decide +kernel, rfl, by decide⟩
theorem mf_X3_readTerm : MF yX3_readTerm cX3_readTerm 3 none 1 := ⟨gd_of (tbi2 (List.mem_of_getElem? (i := 124) rfl)) rfl, wq_at wl2_ok 9 rfl, by decide +kernel, rfl, by decide⟩
theorem mf_X3_readSum : MF yX3_readSum cX3_readSum 4 none 1 := ⟨gd_of (tbi2 (List.mem_of_getElem? (i := 120) rfl)) rfl, wq_at wl2_ok 9 rfl, by decide +kernel, rfl, by decide⟩
theorem mf_X3_readNot : MF yX3_readNot cX3_readNot 3 none 1 := ⟨gd_of (tbi2 (List.mem_of_getElem? (i := 112) rfl)) rfl, wq_at wl2_ok 9 rfl, by decide +kernel, rfl, by decide⟩
theorem mf_X3_readBoth : MF yX3_readBoth cX3_readBoth 3 none 1 := ⟨gd_of (tbi2 (List.mem_of_getElem? (i := 108) rfl)) rfl, wq_at wl2_ok 9 rfl, by decide +kernel, rfl, by decide⟩
theorem mf_X6_become : MF yX6_become cX6_become 3 none 2 := ⟨gd_of (tbi2 (List.mem_of_getElem? (i := 135) rfl)) rfl, wq_at wl2_ok 12 rfl, by decide +kernel, rfl, by decide⟩
theorem mf_X3_read : MF yX3_read cX3_read 3 (some .int) 1 := ⟨gd_of (tbi2 (List.mem_of_getElem? (i := 60) rfl)) rfl, wq_at wl2_ok 9 rfl, by decide +kernel, rfl, by decide⟩
theorem mf_X4_isMissing : MF yX4_isMissing cX4_isMissing 1 (some .boolean) 0 := ⟨gd_of (tbi3 (List.mem_of_getElem? (i := 169) rfl)) rfl, wq_at wl2_ok 13 rfl, by decide +kernel, rfl, by decide⟩
theorem mf_X4_become : MF yX4_become cX4_become 4 none 2 := ⟨gd_of (tbi3 (List.mem_of_getElem? (i := 195) rfl)) rfl, wq_at wl2_ok 13 rfl, by decide +kernel, rfl, by decide⟩
theorem mf_X4_put : MF yX4_put cX4_put 3 none 2 := ⟨gd_of (tbi3 (List.mem_of_getElem? (i := 199) rfl)) rfl, wq_at wl2_ok 13 rfl, by decide +kernel, rfl, by decide⟩
theorem mf_X4_has : MF yX4_has cX4_has 3 (some .boolean) 2 := ⟨gd_of (tbi4 (List.mem_of_getElem? (i := 10) rfl)) rfl, wq_at wl2_ok 13 rfl, by decide +kernel, rfl, by decide⟩
theorem mf_X7_toldOfMaid : MF yX7_toldOfMaid cX7_toldOfMaid 2 (some .int) 2 := ⟨gd_of (tbi2 (List.mem_of_getElem? (i := 186) rfl)) rfl, wq_at wl2_ok 6 rfl, by decide +kernel, rfl, by decide⟩
theorem mf_X7_told : MF yX7_told cX7_told 3 (some .int) 2 := ⟨gd_of (tbi2 (List.mem_of_getElem? (i := 183) rfl)) rfl, wq_at wl2_ok 6 rfl, by decide +kernel, rfl, by decide⟩
theorem mf_X7_set : MF yX7_set cX7_set 5 (some .int) 3 := ⟨gd_of (tbi2 (List.mem_of_getElem? (i := 174) rfl)) rfl, wq_at wl2_ok 6 rfl, by decide +kernel, rfl, by decide⟩
theorem mf_X7_stay : MF yX7_stay cX7_stay 3 (some .int) 2 := ⟨gd_of (tbi2 (List.mem_of_getElem? (i := 200) rfl)) rfl, wq_at wl2_ok 6 rfl, by decide +kernel, rfl, by decide⟩
theorem mf_X7_maid : MF yX7_maid cX7_maid 4 (some .int) 3 := ⟨gd_of (tbi2 (List.mem_of_getElem? (i := 204) rfl)) rfl, wq_at wl2_ok 6 rfl, by decide +kernel, rfl, by decide⟩
theorem mf_X7_list : MF yX7_list cX7_list 4 (some .int) 2 := ⟨gd_of (tbi2 (List.mem_of_getElem? (i := 212) rfl)) rfl, wq_at wl2_ok 6 rfl, by decide +kernel, rfl, by decide⟩
theorem mf_X7_clear : MF yX7_clear cX7_clear 3 (some .int) 1 := ⟨gd_of (tbi2 (List.mem_of_getElem? (i := 216) rfl)) rfl, wq_at wl2_ok 6 rfl, by decide +kernel, rfl, by decide⟩
theorem mf_X7_way : MF yX7_way cX7_way 4 (some .int) 3 := ⟨gd_of (tbi2 (List.mem_of_getElem? (i := 221) rfl)) rfl, wq_at wl2_ok 6 rfl, by decide +kernel, rfl, by decide⟩
theorem mf_X7_feed : MF yX7_feed cX7_feed 2 (some .int) 1 := ⟨gd_of (tbi2 (List.mem_of_getElem? (i := 238) rfl)) rfl, wq_at wl2_ok 6 rfl, by decide +kernel, rfl, by decide⟩
theorem mf_X7_text : MF yX7_text cX7_text 2 (some .int) 0 := ⟨gd_of (tbi3 (List.mem_of_getElem? (i := 2) rfl)) rfl, wq_at wl2_ok 6 rfl, by decide +kernel, rfl, by decide⟩
theorem mf_X7_force : MF yX7_force cX7_force 3 (some .int) 1 := ⟨gd_of (tbi3 (List.mem_of_getElem? (i := 6) rfl)) rfl, wq_at wl2_ok 6 rfl, by decide +kernel, rfl, by decide⟩
theorem mf_X7_master : MF yX7_master cX7_master 2 (some .int) 1 := ⟨gd_of (tbi3 (List.mem_of_getElem? (i := 10) rfl)) rfl, wq_at wl2_ok 6 rfl, by decide +kernel, rfl, by decide⟩
theorem mf_X7_free : MF yX7_free cX7_free 4 (some .int) 2 := ⟨gd_of (tbi3 (List.mem_of_getElem? (i := 18) rfl)) rfl, wq_at wl2_ok 6 rfl, by decide +kernel, rfl, by decide⟩
theorem mf_X7_longestFree : MF yX7_longestFree cX7_longestFree 7 (some .int) 2 := ⟨gd_of (tbi3 (List.mem_of_getElem? (i := 26) rfl)) rfl, wq_at wl2_ok 6 rfl, by decide +kernel, rfl, by decide⟩
theorem mf_X7_longest : MF yX7_longest cX7_longest 3 (some .int) 2 := ⟨gd_of (tbi3 (List.mem_of_getElem? (i := 22) rfl)) rfl, wq_at wl2_ok 6 rfl, by decide +kernel, rfl, by decide⟩
theorem mf_X7_never : MF yX7_never cX7_never 4 (some .int) 1 := ⟨gd_of (tbi3 (List.mem_of_getElem? (i := 30) rfl)) rfl, wq_at wl2_ok 6 rfl, by decide +kernel, rfl, by decide⟩
theorem mf_X7_isAskedOfMorning : MF yX7_isAskedOfMorning cX7_isAskedOfMorning 2 (some .boolean) 1 := ⟨gd_of (tbi3 (List.mem_of_getElem? (i := 38) rfl)) rfl, wq_at wl2_ok 6 rfl, by decide +kernel, rfl, by decide⟩
theorem mf_X7_morning : MF yX7_morning cX7_morning 3 (some .int) 2 := ⟨gd_of (tbi3 (List.mem_of_getElem? (i := 34) rfl)) rfl, wq_at wl2_ok 6 rfl, by decide +kernel, rfl, by decide⟩
theorem mf_X7_firstOrder : MF yX7_firstOrder cX7_firstOrder 4 (some .int) 1 := ⟨gd_of (tbi3 (List.mem_of_getElem? (i := 127) rfl)) rfl, wq_at wl2_ok 6 rfl, by decide +kernel, rfl, by decide⟩
theorem mf_X7_swapPlaces : MF yX7_swapPlaces cX7_swapPlaces 4 none 2 := ⟨gd_of (tbi3 (List.mem_of_getElem? (i := 145) rfl)) rfl, wq_at wl2_ok 6 rfl, by decide +kernel, rfl, by decide⟩
theorem mf_X7_nextOrder : MF yX7_nextOrder cX7_nextOrder 6 none 1 := ⟨gd_of (tbi3 (List.mem_of_getElem? (i := 141) rfl)) rfl, wq_at wl2_ok 6 rfl, by decide +kernel, rfl, by decide⟩
theorem mf_X7_best : MF yX7_best cX7_best 11 (some .int) 2 := ⟨gd_of (tbi3 (List.mem_of_getElem? (i := 123) rfl)) rfl, wq_at wl2_ok 6 rfl, by decide +kernel, rfl, by decide⟩
theorem mf_X7_begin : MF yX7_begin cX7_begin 7 (some .int) 2 := ⟨gd_of (tbi3 (List.mem_of_getElem? (i := 149) rfl)) rfl, wq_at wl2_ok 6 rfl, by decide +kernel, rfl, by decide⟩
theorem mf_X7_home : MF yX7_home cX7_home 6 (some .int) 1 := ⟨gd_of (tbi3 (List.mem_of_getElem? (i := 153) rfl)) rfl, wq_at wl2_ok 6 rfl, by decide +kernel, rfl, by decide⟩
theorem mf_X7_stairs : MF yX7_stairs cX7_stairs 2 (some .int) 0 := ⟨gd_of (tbi3 (List.mem_of_getElem? (i := 161) rfl)) rfl, wq_at wl2_ok 6 rfl, by decide +kernel, rfl, by decide⟩
theorem mf_X7_isTold : MF yX7_isTold cX7_isTold 4 (some .boolean) 2 := ⟨gd_of (tbi3 (List.mem_of_getElem? (i := 173) rfl)) rfl, wq_at wl2_ok 6 rfl, by decide +kernel, rfl, by decide⟩
theorem mf_X7_from : MF yX7_from cX7_from 7 (some .int) 2 := ⟨gd_of (tbi3 (List.mem_of_getElem? (i := 165) rfl)) rfl, wq_at wl2_ok 6 rfl, by decide +kernel, rfl, by decide⟩
theorem mf_X7_doorChoices : MF yX7_doorChoices cX7_doorChoices 2 (some .int) 1 := ⟨gd_of (tbi3 (List.mem_of_getElem? (i := 181) rfl)) rfl, wq_at wl2_ok 6 rfl, by decide +kernel, rfl, by decide⟩
theorem mf_X7_isSeenFromDoor : MF yX7_isSeenFromDoor cX7_isSeenFromDoor 4 (some .boolean) 2 := ⟨gd_of (tbi3 (List.mem_of_getElem? (i := 185) rfl)) rfl, wq_at wl2_ok 6 rfl, by decide +kernel, rfl, by decide⟩
theorem mf_X7_door : MF yX7_door cX7_door 9 (some .int) 3 := ⟨gd_of (tbi3 (List.mem_of_getElem? (i := 177) rfl)) rfl, wq_at wl2_ok 6 rfl, by decide +kernel, rfl, by decide⟩
theorem mf_X7_film : MF yX7_film cX7_film 6 (some .int) 3 := ⟨gd_of (tbi3 (List.mem_of_getElem? (i := 191) rfl)) rfl, wq_at wl2_ok 6 rfl, by decide +kernel, rfl, by decide⟩
theorem mf_X7_drawn : MF yX7_drawn cX7_drawn 2 (some .int) 1 := ⟨gd_of (tbi3 (List.mem_of_getElem? (i := 204) rfl)) rfl, wq_at wl2_ok 6 rfl, by decide +kernel, rfl, by decide⟩
theorem mf_X7_inLowestTerms : MF yX7_inLowestTerms cX7_inLowestTerms 4 (some .int) 3 := ⟨gd_of (tbi3 (List.mem_of_getElem? (i := 221) rfl)) rfl, wq_at wl2_ok 6 rfl, by decide +kernel, rfl, by decide⟩
theorem mf_X7_chance : MF yX7_chance cX7_chance 6 (some .long) 3 := ⟨gd_of (tbi3 (List.mem_of_getElem? (i := 213) rfl)) rfl, wq_at wl2_ok 6 rfl, by decide +kernel, rfl, by decide⟩
theorem mf_X7_image : MF yX7_image cX7_image 1 (some .int) 0 := ⟨gd_of (tbi3 (List.mem_of_getElem? (i := 225) rfl)) rfl, wq_at wl2_ok 6 rfl, by decide +kernel, rfl, by decide⟩
theorem mf_X7_back : MF yX7_back cX7_back 1 (some .int) 0 := ⟨gd_of (tbi3 (List.mem_of_getElem? (i := 229) rfl)) rfl, wq_at wl2_ok 6 rfl, by decide +kernel, rfl, by decide⟩
theorem mf_X7_count : MF yX7_count cX7_count 2 (some .int) 1 := ⟨gd_of (tbi3 (List.mem_of_getElem? (i := 233) rfl)) rfl, wq_at wl2_ok 6 rfl, by decide +kernel, rfl, by decide⟩
theorem mf_X7_sheet : MF yX7_sheet cX7_sheet 4 (some .int) 3 := ⟨gd_of (tbi3 (List.mem_of_getElem? (i := 238) rfl)) rfl, wq_at wl2_ok 6 rfl, by decide +kernel, rfl, by decide⟩
theorem mf_X7_cell : MF yX7_cell cX7_cell 5 (some .int) 3 := ⟨gd_of (tbi4 (List.mem_of_getElem? (i := 2) rfl)) rfl, wq_at wl2_ok 6 rfl, by decide +kernel, rfl, by decide⟩
theorem mf_X7_copy : MF yX7_copy cX7_copy 8 (some .int) 5 := ⟨gd_of (tbi4 (List.mem_of_getElem? (i := 6) rfl)) rfl, wq_at wl2_ok 6 rfl, by decide +kernel, rfl, by decide⟩
theorem mf_X7_maids : MF yX7_maids cX7_maids 9 (some .int) 4 := ⟨gd_of (tbi4 (List.mem_of_getElem? (i := 15) rfl)) rfl, wq_at wl2_ok 6 rfl, by decide +kernel, rfl, by decide⟩
theorem mf_X7_taken : MF yX7_taken cX7_taken 3 (some .int) 2 := ⟨gd_of (tbi4 (List.mem_of_getElem? (i := 20) rfl)) rfl, wq_at wl2_ok 6 rfl, by decide +kernel, rfl, by decide⟩
theorem mf_X8_in : MF yX8_in cX8_in 6 (some .boolean) 3 := ⟨gd_of (tbi4 (List.mem_of_getElem? (i := 222) rfl)) rfl, wq_at wl2_ok 17 rfl, by decide +kernel, rfl, by decide⟩
theorem mf_X8_within : MF yX8_within cX8_within 3 (some .int) 3 := ⟨gd_of (tbi5 (List.mem_of_getElem? (i := 185) rfl)) rfl, wq_at wl2_ok 17 rfl, by decide +kernel, rfl, by decide⟩
theorem mf_X8_spell : MF yX8_spell cX8_spell 10 none 9 := ⟨gd_of (tbi4 (List.mem_of_getElem? (i := 36) rfl)) rfl, wq_at wl2_ok 17 rfl, by decide +kernel, rfl, by decide⟩
theorem mf_X8_isRoom : MF yX8_isRoom cX8_isRoom 1 (some .boolean) 1 := ⟨gd_of (tbi4 (List.mem_of_getElem? (i := 229) rfl)) rfl, wq_at wl2_ok 17 rfl, by decide +kernel, rfl, by decide⟩
theorem mf_X8_isMaid : MF yX8_isMaid cX8_isMaid 2 (some .boolean) 1 := ⟨gd_of (tbi4 (List.mem_of_getElem? (i := 238) rfl)) rfl, wq_at wl2_ok 17 rfl, by decide +kernel, rfl, by decide⟩
theorem mf_X8_isStay : MF yX8_isStay cX8_isStay 2 (some .boolean) 1 := ⟨gd_of (tbi4 (List.mem_of_getElem? (i := 234) rfl)) rfl, wq_at wl2_ok 17 rfl, by decide +kernel, rfl, by decide⟩
theorem mf_X8_isOf : MF yX8_isOf cX8_isOf 3 (some .boolean) 2 := ⟨gd_of (tbi4 (List.mem_of_getElem? (i := 226) rfl)) rfl, wq_at wl2_ok 17 rfl, by decide +kernel, rfl, by decide⟩
theorem mf_X8_lays : MF yX8_lays cX8_lays 4 none 3 := ⟨gd_of (tbi5 (List.mem_of_getElem? (i := 12) rfl)) rfl, wq_at wl2_ok 17 rfl, by decide +kernel, rfl, by decide⟩
theorem mf_X8_told : MF yX8_told cX8_told 3 (some .int) 2 := ⟨gd_of (tbi5 (List.mem_of_getElem? (i := 6) rfl)) rfl, wq_at wl2_ok 17 rfl, by decide +kernel, rfl, by decide⟩
theorem mf_X8_set : MF yX8_set cX8_set 5 (some .int) 3 := ⟨gd_of (tbi4 (List.mem_of_getElem? (i := 218) rfl)) rfl, wq_at wl2_ok 17 rfl, by decide +kernel, rfl, by decide⟩
theorem mf_X8_stay : MF yX8_stay cX8_stay 3 (some .int) 2 := ⟨gd_of (tbi5 (List.mem_of_getElem? (i := 16) rfl)) rfl, wq_at wl2_ok 17 rfl, by decide +kernel, rfl, by decide⟩
theorem mf_X8_maid : MF yX8_maid cX8_maid 4 (some .int) 3 := ⟨gd_of (tbi5 (List.mem_of_getElem? (i := 20) rfl)) rfl, wq_at wl2_ok 17 rfl, by decide +kernel, rfl, by decide⟩
theorem mf_X8_list : MF yX8_list cX8_list 3 (some .int) 2 := ⟨gd_of (tbi5 (List.mem_of_getElem? (i := 24) rfl)) rfl, wq_at wl2_ok 17 rfl, by decide +kernel, rfl, by decide⟩
theorem mf_X8_clear : MF yX8_clear cX8_clear 3 (some .int) 1 := ⟨gd_of (tbi5 (List.mem_of_getElem? (i := 28) rfl)) rfl, wq_at wl2_ok 17 rfl, by decide +kernel, rfl, by decide⟩
theorem mf_X8_isBeside : MF yX8_isBeside cX8_isBeside 5 (some .boolean) 2 := ⟨gd_of (tbi5 (List.mem_of_getElem? (i := 41) rfl)) rfl, wq_at wl2_ok 17 rfl, by decide +kernel, rfl, by decide⟩
theorem mf_X8_gathers : MF yX8_gathers cX8_gathers 5 none 0 := ⟨gd_of (tbi5 (List.mem_of_getElem? (i := 37) rfl)) rfl, wq_at wl2_ok 17 rfl, by decide +kernel, rfl, by decide⟩
theorem mf_X8_nextTo : MF yX8_nextTo cX8_nextTo 5 (some .int) 2 := ⟨gd_of (tbi5 (List.mem_of_getElem? (i := 45) rfl)) rfl, wq_at wl2_ok 17 rfl, by decide +kernel, rfl, by decide⟩
theorem mf_X8_way : MF yX8_way cX8_way 4 (some .int) 3 := ⟨gd_of (tbi5 (List.mem_of_getElem? (i := 33) rfl)) rfl, wq_at wl2_ok 17 rfl, by decide +kernel, rfl, by decide⟩
theorem mf_X8_masterIn : MF yX8_masterIn cX8_masterIn 5 (some .int) 1 := ⟨gd_of (tbi5 (List.mem_of_getElem? (i := 53) rfl)) rfl, wq_at wl2_ok 17 rfl, by decide +kernel, rfl, by decide⟩
theorem mf_X8_master : MF yX8_master cX8_master 2 (some .int) 1 := ⟨gd_of (tbi5 (List.mem_of_getElem? (i := 49) rfl)) rfl, wq_at wl2_ok 17 rfl, by decide +kernel, rfl, by decide⟩
theorem mf_X8_free : MF yX8_free cX8_free 4 (some .int) 2 := ⟨gd_of (tbi5 (List.mem_of_getElem? (i := 57) rfl)) rfl, wq_at wl2_ok 17 rfl, by decide +kernel, rfl, by decide⟩
theorem mf_X8_longestOf : MF yX8_longestOf cX8_longestOf 5 (some .int) 1 := ⟨gd_of (tbi5 (List.mem_of_getElem? (i := 65) rfl)) rfl, wq_at wl2_ok 17 rfl, by decide +kernel, rfl, by decide⟩
theorem mf_X8_longest : MF yX8_longest cX8_longest 4 (some .int) 2 := ⟨gd_of (tbi5 (List.mem_of_getElem? (i := 61) rfl)) rfl, wq_at wl2_ok 17 rfl, by decide +kernel, rfl, by decide⟩
theorem mf_X8_never : MF yX8_never cX8_never 4 (some .int) 1 := ⟨gd_of (tbi5 (List.mem_of_getElem? (i := 69) rfl)) rfl, wq_at wl2_ok 17 rfl, by decide +kernel, rfl, by decide⟩
theorem mf_X8_feed : MF yX8_feed cX8_feed 2 (some .int) 1 := ⟨gd_of (tbi5 (List.mem_of_getElem? (i := 74) rfl)) rfl, wq_at wl2_ok 17 rfl, by decide +kernel, rfl, by decide⟩
theorem mf_X8_byteAt : MF yX8_byteAt cX8_byteAt 2 (some .int) 1 := ⟨gd_of (tbi5 (List.mem_of_getElem? (i := 91) rfl)) rfl, wq_at wl2_ok 17 rfl, by decide +kernel, rfl, by decide⟩
theorem mf_X8_next : MF yX8_next cX8_next 3 none 0 := ⟨gd_of (tbi5 (List.mem_of_getElem? (i := 87) rfl)) rfl, wq_at wl2_ok 17 rfl, by decide +kernel, rfl, by decide⟩
theorem mf_X8_fail : MF yX8_fail cX8_fail 1 none 0 := ⟨gd_of (tbi5 (List.mem_of_getElem? (i := 111) rfl)) rfl, wq_at wl2_ok 17 rfl, by decide +kernel, rfl, by decide⟩
theorem mf_X8_isLetter : MF yX8_isLetter cX8_isLetter 3 (some .boolean) 2 := ⟨gd_of (tbi5 (List.mem_of_getElem? (i := 103) rfl)) rfl, wq_at wl2_ok 17 rfl, by decide +kernel, rfl, by decide⟩
theorem mf_X8_isWord : MF yX8_isWord cX8_isWord 9 (some .boolean) 8 := ⟨gd_of (tbi5 (List.mem_of_getElem? (i := 99) rfl)) rfl, wq_at wl2_ok 17 rfl, by decide +kernel, rfl, by decide⟩
theorem mf_X8_isSign : MF yX8_isSign cX8_isSign 2 (some .boolean) 1 := ⟨gd_of (tbi5 (List.mem_of_getElem? (i := 143) rfl)) rfl, wq_at wl2_ok 17 rfl, by decide +kernel, rfl, by decide⟩
theorem mf_X8_opens : MF yX8_opens cX8_opens 1 (some .boolean) 0 := ⟨gd_of (tbi5 (List.mem_of_getElem? (i := 127) rfl)) rfl, wq_at wl2_ok 17 rfl, by decide +kernel, rfl, by decide⟩
theorem mf_X8_name : MF yX8_name cX8_name 1 (some .int) 0 := ⟨gd_of (tbi5 (List.mem_of_getElem? (i := 147) rfl)) rfl, wq_at wl2_ok 17 rfl, by decide +kernel, rfl, by decide⟩
theorem mf_X8_atom : MF yX8_atom cX8_atom 2 (some .int) 0 := ⟨gd_of (tbi5 (List.mem_of_getElem? (i := 139) rfl)) rfl, wq_at wl2_ok 17 rfl, by decide +kernel, rfl, by decide⟩
theorem mf_X8_term : MF yX8_term cX8_term 2 (some .int) 0 := ⟨gd_of (tbi5 (List.mem_of_getElem? (i := 135) rfl)) rfl, wq_at wl2_ok 17 rfl, by decide +kernel, rfl, by decide⟩
theorem mf_X8_added : MF yX8_added cX8_added 4 (some .int) 0 := ⟨gd_of (tbi5 (List.mem_of_getElem? (i := 131) rfl)) rfl, wq_at wl2_ok 17 rfl, by decide +kernel, rfl, by decide⟩
theorem mf_X8_not : MF yX8_not cX8_not 4 (some .int) 0 := ⟨gd_of (tbi5 (List.mem_of_getElem? (i := 123) rfl)) rfl, wq_at wl2_ok 17 rfl, by decide +kernel, rfl, by decide⟩
theorem mf_X8_both : MF yX8_both cX8_both 3 (some .int) 0 := ⟨gd_of (tbi5 (List.mem_of_getElem? (i := 119) rfl)) rfl, wq_at wl2_ok 17 rfl, by decide +kernel, rfl, by decide⟩
theorem mf_X8_either : MF yX8_either cX8_either 3 (some .int) 0 := ⟨gd_of (tbi5 (List.mem_of_getElem? (i := 115) rfl)) rfl, wq_at wl2_ok 17 rfl, by decide +kernel, rfl, by decide⟩
theorem mf_X8_part : MF yX8_part cX8_part 3 (some .int) 1 := ⟨gd_of (tbi5 (List.mem_of_getElem? (i := 107) rfl)) rfl, wq_at wl2_ok 17 rfl, by decide +kernel, rfl, by decide⟩
theorem mf_X8_read : MF yX8_read cX8_read 6 (some .int) 2 := ⟨gd_of (tbi5 (List.mem_of_getElem? (i := 83) rfl)) rfl, wq_at wl2_ok 17 rfl, by decide +kernel, rfl, by decide⟩
theorem mf_X8_text : MF yX8_text cX8_text 2 (some .int) 0 := ⟨gd_of (tbi5 (List.mem_of_getElem? (i := 79) rfl)) rfl, wq_at wl2_ok 17 rfl, by decide +kernel, rfl, by decide⟩
theorem mf_X8_force : MF yX8_force cX8_force 3 (some .int) 1 := ⟨gd_of (tbi5 (List.mem_of_getElem? (i := 153) rfl)) rfl, wq_at wl2_ok 17 rfl, by decide +kernel, rfl, by decide⟩
theorem mf_X8_says : MF yX8_says cX8_says 7 (some .int) 4 := ⟨gd_of (tbi5 (List.mem_of_getElem? (i := 182) rfl)) rfl, wq_at wl2_ok 17 rfl, by decide +kernel, rfl, by decide⟩
theorem mf_X8_takesOf : MF yX8_takesOf cX8_takesOf 5 (some .int) 2 := ⟨gd_of (tbi5 (List.mem_of_getElem? (i := 193) rfl)) rfl, wq_at wl2_ok 17 rfl, by decide +kernel, rfl, by decide⟩
theorem mf_X8_worksOf : MF yX8_worksOf cX8_worksOf 5 (some .int) 2 := ⟨gd_of (tbi5 (List.mem_of_getElem? (i := 189) rfl)) rfl, wq_at wl2_ok 17 rfl, by decide +kernel, rfl, by decide⟩
theorem mf_X8_aimOf : MF yX8_aimOf cX8_aimOf 2 (some .int) 1 := ⟨gd_of (tbi5 (List.mem_of_getElem? (i := 178) rfl)) rfl, wq_at wl2_ok 17 rfl, by decide +kernel, rfl, by decide⟩
theorem mf_X8_startsOff : MF yX8_startsOff cX8_startsOff 2 none 0 := ⟨gd_of (tbi5 (List.mem_of_getElem? (i := 166) rfl)) rfl, wq_at wl2_ok 17 rfl, by decide +kernel, rfl, by decide⟩
theorem mf_X8_acts : MF yX8_acts cX8_acts 7 none 2 := ⟨gd_of (tbi5 (List.mem_of_getElem? (i := 174) rfl)) rfl, wq_at wl2_ok 17 rfl, by decide +kernel, rfl, by decide⟩
theorem mf_X8_isReady : MF yX8_isReady cX8_isReady 3 (some .boolean) 0 := ⟨gd_of (tbi5 (List.mem_of_getElem? (i := 197) rfl)) rfl, wq_at wl2_ok 17 rfl, by decide +kernel, rfl, by decide⟩
theorem mf_X8_lives : MF yX8_lives cX8_lives 3 none 1 := ⟨gd_of (tbi5 (List.mem_of_getElem? (i := 170) rfl)) rfl, wq_at wl2_ok 17 rfl, by decide +kernel, rfl, by decide⟩
theorem mf_X8_livesAll : MF yX8_livesAll cX8_livesAll 3 none 1 := ⟨gd_of (tbi5 (List.mem_of_getElem? (i := 162) rfl)) rfl, wq_at wl2_ok 17 rfl, by decide +kernel, rfl, by decide⟩
theorem mf_X8_leftAll : MF yX8_leftAll cX8_leftAll 3 (some .int) 0 := ⟨gd_of (tbi5 (List.mem_of_getElem? (i := 201) rfl)) rfl, wq_at wl2_ok 17 rfl, by decide +kernel, rfl, by decide⟩
theorem mf_X8_dear : MF yX8_dear cX8_dear 1 (some .int) 0 := ⟨gd_of (tbi5 (List.mem_of_getElem? (i := 213) rfl)) rfl, wq_at wl2_ok 17 rfl, by decide +kernel, rfl, by decide⟩
theorem mf_X8_morning : MF yX8_morning cX8_morning 4 (some .int) 2 := ⟨gd_of (tbi5 (List.mem_of_getElem? (i := 157) rfl)) rfl, wq_at wl2_ok 17 rfl, by decide +kernel, rfl, by decide⟩
theorem mf_X8_orders : MF yX8_orders cX8_orders 7 none 3 := ⟨gd_of (tbi5 (List.mem_of_getElem? (i := 209) rfl)) rfl, wq_at wl2_ok 17 rfl, by decide +kernel, rfl, by decide⟩
theorem mf_X8_best : MF yX8_best cX8_best 4 (some .int) 2 := ⟨gd_of (tbi5 (List.mem_of_getElem? (i := 205) rfl)) rfl, wq_at wl2_ok 17 rfl, by decide +kernel, rfl, by decide⟩
theorem mf_X8_begin : MF yX8_begin cX8_begin 8 (some .int) 2 := ⟨gd_of (tbi5 (List.mem_of_getElem? (i := 217) rfl)) rfl, wq_at wl2_ok 17 rfl, by decide +kernel, rfl, by decide⟩
theorem mf_X8_home : MF yX8_home cX8_home 6 (some .int) 1 := ⟨gd_of (tbi5 (List.mem_of_getElem? (i := 221) rfl)) rfl, wq_at wl2_ok 17 rfl, by decide +kernel, rfl, by decide⟩
theorem mf_X8_stairs : MF yX8_stairs cX8_stairs 4 (some .int) 0 := ⟨gd_of (tbi5 (List.mem_of_getElem? (i := 225) rfl)) rfl, wq_at wl2_ok 17 rfl, by decide +kernel, rfl, by decide⟩
theorem mf_X8_isSheet : MF yX8_isSheet cX8_isSheet 1 (some .boolean) 1 := ⟨gd_of (tbi5 (List.mem_of_getElem? (i := 232) rfl)) rfl, wq_at wl2_ok 17 rfl, by decide +kernel, rfl, by decide⟩
theorem mf_X8_from : MF yX8_from cX8_from 8 (some .int) 2 := ⟨gd_of (tbi5 (List.mem_of_getElem? (i := 229) rfl)) rfl, wq_at wl2_ok 17 rfl, by decide +kernel, rfl, by decide⟩
theorem mf_X8_isSo : MF yX8_isSo cX8_isSo 4 (some .boolean) 2 := ⟨gd_of (tbi6 (List.mem_of_getElem? (i := 1) rfl)) rfl, wq_at wl2_ok 17 rfl, by decide +kernel, rfl, by decide⟩
theorem mf_X8_tries : MF yX8_tries cX8_tries 4 none 3 := ⟨gd_of (tbi6 (List.mem_of_getElem? (i := 5) rfl)) rfl, wq_at wl2_ok 17 rfl, by decide +kernel, rfl, by decide⟩
theorem mf_X8_door : MF yX8_door cX8_door 8 (some .int) 3 := ⟨gd_of (tbi5 (List.mem_of_getElem? (i := 236) rfl)) rfl, wq_at wl2_ok 17 rfl, by decide +kernel, rfl, by decide⟩
theorem mf_X8_sheet : MF yX8_sheet cX8_sheet 5 (some .int) 3 := ⟨gd_of (tbi6 (List.mem_of_getElem? (i := 14) rfl)) rfl, wq_at wl2_ok 17 rfl, by decide +kernel, rfl, by decide⟩
theorem mf_X8_film : MF yX8_film cX8_film 5 (some .int) 3 := ⟨gd_of (tbi6 (List.mem_of_getElem? (i := 9) rfl)) rfl, wq_at wl2_ok 17 rfl, by decide +kernel, rfl, by decide⟩
theorem mf_X8_draws : MF yX8_draws cX8_draws 5 (some .int) 1 := ⟨gd_of (tbi6 (List.mem_of_getElem? (i := 24) rfl)) rfl, wq_at wl2_ok 17 rfl, by decide +kernel, rfl, by decide⟩
theorem mf_X8_drawn : MF yX8_drawn cX8_drawn 2 (some .int) 1 := ⟨gd_of (tbi6 (List.mem_of_getElem? (i := 20) rfl)) rfl, wq_at wl2_ok 17 rfl, by decide +kernel, rfl, by decide⟩
theorem mf_X8_chance : MF yX8_chance cX8_chance 12 (some .long) 3 := ⟨gd_of (tbi6 (List.mem_of_getElem? (i := 29) rfl)) rfl, wq_at wl2_ok 17 rfl, by decide +kernel, rfl, by decide⟩
theorem mf_X8_image : MF yX8_image cX8_image 2 (some .int) 0 := ⟨gd_of (tbi6 (List.mem_of_getElem? (i := 35) rfl)) rfl, wq_at wl2_ok 17 rfl, by decide +kernel, rfl, by decide⟩
theorem mf_X8_back : MF yX8_back cX8_back 2 (some .int) 0 := ⟨gd_of (tbi6 (List.mem_of_getElem? (i := 39) rfl)) rfl, wq_at wl2_ok 17 rfl, by decide +kernel, rfl, by decide⟩
theorem mf_X8_count : MF yX8_count cX8_count 4 (some .int) 1 := ⟨gd_of (tbi6 (List.mem_of_getElem? (i := 43) rfl)) rfl, wq_at wl2_ok 17 rfl, by decide +kernel, rfl, by decide⟩
theorem mf_X8_cell : MF yX8_cell cX8_cell 4 (some .int) 3 := ⟨gd_of (tbi6 (List.mem_of_getElem? (i := 49) rfl)) rfl, wq_at wl2_ok 17 rfl, by decide +kernel, rfl, by decide⟩
theorem mf_X8_copy : MF yX8_copy cX8_copy 9 (some .int) 5 := ⟨gd_of (tbi6 (List.mem_of_getElem? (i := 53) rfl)) rfl, wq_at wl2_ok 17 rfl, by decide +kernel, rfl, by decide⟩
theorem mf_X8_maids : MF yX8_maids cX8_maids 8 (some .int) 4 := ⟨gd_of (tbi6 (List.mem_of_getElem? (i := 57) rfl)) rfl, wq_at wl2_ok 17 rfl, by decide +kernel, rfl, by decide⟩
theorem mf_X8_over : MF yX8_over cX8_over 1 (some .int) 1 := ⟨gd_of (tbi6 (List.mem_of_getElem? (i := 65) rfl)) rfl, wq_at wl2_ok 17 rfl, by decide +kernel, rfl, by decide⟩
theorem mf_X8_taken : MF yX8_taken cX8_taken 4 (some .int) 2 := ⟨gd_of (tbi6 (List.mem_of_getElem? (i := 62) rfl)) rfl, wq_at wl2_ok 17 rfl, by decide +kernel, rfl, by decide⟩
theorem ml_RX0_158 : Cond.methodLink RX0 158 Lib.Math.min.name ∈ lw_gd := wq_at wl8_ok 19 rfl
theorem ml_RX0_127 : Cond.methodLink RX0 127 Lib.Math.max.name ∈ lw_gd := wq_at wl8_ok 20 rfl
theorem ml_RX2_41 : Cond.methodLink RX2 41 Lib.Math.max.name ∈ lw_gd := wq_at wl8_ok 23 rfl
theorem ml_RX5_19 : Cond.methodLink RX5 19 Lib.Math.abs.name ∈ lw_gd := wq_at wl7_ok 21 rfl
theorem ml_RX5_25 : Cond.methodLink RX5 25 Lib.Math.min.name ∈ lw_gd := wq_at wl7_ok 22 rfl
theorem ml_RX0_81 : Cond.methodLink RX0 81 arraycopyName ∈ lw_gd := wq_at wl8_ok 7 rfl
theorem ml_RX2_28 : Cond.methodLink RX2 28 arraycopyName ∈ lw_gd := wq_at wl9_ok 14 rfl
theorem ml_RX1_41 : Cond.methodLink RX1 41 arraycopyName ∈ lw_gd := wq_at wl9_ok 11 rfl
theorem kc_RX1_61 : Cond.constant RX1 61 (1103515245) ∈ lw_gd := wq_at wl10_ok 2 rfl
theorem ml_RX6_18 : Cond.methodLink RX6 18 arraycopyName ∈ lw_gd := wq_at wl6_ok 24 rfl
theorem kc_RX7_248 : Cond.constantLong RX7 248 (-4611686018427387904) ∈ lw_gd := wq_at wl10_ok 3 rfl
theorem ml_RX7_266 : Cond.methodLink RX7 266 arraycopyName ∈ lw_gd := wq_at wl10_ok 11 rfl
theorem kc_RX8_112 : Cond.constantLong RX8 112 (7) ∈ lw_gd := wq_at wl12_ok 19 rfl
theorem kc_RX8_156 : Cond.constantLong RX8 156 (10) ∈ lw_gd := wq_at wl12_ok 28 rfl
theorem kc_RX8_158 : Cond.constantLong RX8 158 (14) ∈ lw_gd := wq_at wl12_ok 29 rfl
theorem kc_RX8_134 : Cond.constantLong RX8 134 (5) ∈ lw_gd := wq_at wl12_ok 13 rfl
theorem kc_RX8_140 : Cond.constantLong RX8 140 (3) ∈ lw_gd := wq_at wl12_ok 22 rfl
theorem kc_RX8_142 : Cond.constantLong RX8 142 (99) ∈ lw_gd := wq_at wl12_ok 23 rfl
theorem kc_RX8_144 : Cond.constantLong RX8 144 (50) ∈ lw_gd := wq_at wl12_ok 24 rfl
theorem kc_RX8_146 : Cond.constantLong RX8 146 (9) ∈ lw_gd := wq_at wl12_ok 25 rfl
theorem kc_RX8_179 : Cond.constantLong RX8 179 (100) ∈ lw_gd := wq_at wl13_ok 7 rfl
theorem kc_RX8_181 : Cond.constantLong RX8 181 (255) ∈ lw_gd := wq_at wl13_ok 8 rfl
theorem kc_RX8_204 : Cond.constantLong RX8 204 (97) ∈ lw_gd := wq_at wl13_ok 12 rfl
theorem kc_RX8_206 : Cond.constantLong RX8 206 (122) ∈ lw_gd := wq_at wl13_ok 13 rfl
theorem kc_RX8_208 : Cond.constantLong RX8 208 (48) ∈ lw_gd := wq_at wl13_ok 14 rfl
theorem kc_RX8_210 : Cond.constantLong RX8 210 (57) ∈ lw_gd := wq_at wl13_ok 15 rfl
theorem kc_RX8_277 : Cond.constantLong RX8 277 (43) ∈ lw_gd := wq_at wl13_ok 29 rfl
theorem kc_RX8_285 : Cond.constantLong RX8 285 (60) ∈ lw_gd := wq_at wl14_ok 0 rfl
theorem kc_RX8_343 : Cond.constantLong RX8 343 (49) ∈ lw_gd := wq_at wl14_ok 1 rfl
theorem kc_RX8_360 : Cond.constantLong RX8 360 (4) ∈ lw_gd := wq_at wl14_ok 18 rfl
theorem kc_RX8_392 : Cond.constantLong RX8 392 (-1) ∈ lw_gd := wq_at wl14_ok 24 rfl
theorem kc_RX8_394 : Cond.constantLong RX8 394 (2) ∈ lw_gd := wq_at wl14_ok 25 rfl
theorem kc_RX8_368 : Cond.constantLong RX8 368 (40) ∈ lw_gd := wq_at wl14_ok 21 rfl
theorem kc_RX8_373 : Cond.constant RX8 373 (1103515245) ∈ lw_gd := wq_at wl14_ok 27 rfl
theorem kc_RX8_377 : Cond.constantLong RX8 377 (20) ∈ lw_gd := wq_at wl14_ok 28 rfl
theorem kc_RX8_379 : Cond.constantLong RX8 379 (-4611686018427387904) ∈ lw_gd := wq_at wl14_ok 29 rfl
theorem kc_RX8_390 : Cond.constantLong RX8 390 (6) ∈ lw_gd := wq_at wl15_ok 0 rfl
theorem mf_pci : MF yJ3_checkIndex_8e157 cJ3_checkIndex_8e157 3 (some .int) 3 := ⟨gd_of (tbi2 (List.mem_of_getElem? (i := 33) rfl)) rfl, wq_at wl2_ok 16 rfl, by decide +kernel, rfl, by decide⟩
theorem mf_sci : MF yJ0_checkIndex_df160 cJ0_checkIndex_df160 2 none 2 := ⟨gd_of (tbi2 (List.mem_of_getElem? (i := 28) rfl)) rfl, wq_at wl2_ok 14 rfl, by decide +kernel, rfl, by decide⟩
theorem mf_lch : MF yJ1_charAt_3b067 cJ1_charAt_3b067 2 (some .char) 2 := ⟨gd_of (tbi2 (List.mem_of_getElem? (i := 25) rfl)) rfl, wq_at wl2_ok 15 rfl, by decide +kernel, rfl, by decide⟩
theorem mf_cod : MF yJ0_coder_7d493 cJ0_coder_7d493 1 (some .byte) 0 := ⟨gd_of (tbi2 (List.mem_of_getElem? (i := 12) rfl)) rfl, wq_at wl2_ok 14 rfl, by decide +kernel, rfl, by decide⟩
theorem mf_isl : MF yJ0_isLatin1_aae02 cJ0_isLatin1_aae02 1 (some .boolean) 0 := ⟨gd_of (tbi2 (List.mem_of_getElem? (i := 22) rfl)) rfl, wq_at wl2_ok 14 rfl, by decide +kernel, rfl, by decide⟩
theorem mf_cha : MF yJ0_charAt_5068e cJ0_charAt_5068e 2 (some .char) 1 := ⟨gd_of (tbi2 (List.mem_of_getElem? (i := 18) rfl)) rfl, wq_at wl2_ok 14 rfl, by decide +kernel, rfl, by decide⟩
theorem mf_len : MF yJ0_length_8abf5 cJ0_length_8abf5 1 (some .int) 0 := ⟨gd_of (tbi2 (List.mem_of_getElem? (i := 8) rfl)) rfl, wq_at wl2_ok 14 rfl, by decide +kernel, rfl, by decide⟩
theorem cwj_95 : Cond.methodLink RJ0 1059 yJ3_checkIndex_8e157 ∈ lw_gd ∧ Cond.static yJ3_checkIndex_8e157 ∈ lw_gd := ⟨wq_at wl5_ok 23 rfl, wq_at wl5_ok 24 rfl⟩
theorem cwj_9 : Cond.methodLink RJ1 9 yJ0_checkIndex_df160 ∈ lw_gd ∧ Cond.static yJ0_checkIndex_df160 ∈ lw_gd := ⟨wq_at wl5_ok 20 rfl, wq_at wl5_ok 21 rfl⟩
theorem cwj_495 : Cond.methodLink RJ0 495 yJ1_charAt_3b067 ∈ lw_gd ∧ Cond.static yJ1_charAt_3b067 ∈ lw_gd := ⟨wq_at wl5_ok 18 rfl, wq_at wl5_ok 19 rfl⟩
theorem cwj_335 : Cond.methodLink RJ0 335 yJ0_coder_7d493 ∈ lw_gd ∧ Cond.instanceMethod yJ0_coder_7d493 ∈ lw_gd ∧ Cond.selects yJ0_coder_7d493.cls yJ0_coder_7d493 yJ0_coder_7d493 ∈ lw_gd := ⟨wq_at wl5_ok 8 rfl, wq_at wl5_ok 9 rfl, wq_at wl5_ok 10 rfl⟩
theorem cwj_492 : Cond.methodLink RJ0 492 yJ0_isLatin1_aae02 ∈ lw_gd ∧ Cond.instanceMethod yJ0_isLatin1_aae02 ∈ lw_gd ∧ Cond.selects yJ0_isLatin1_aae02.cls yJ0_isLatin1_aae02 yJ0_isLatin1_aae02 ∈ lw_gd := ⟨wq_at wl5_ok 15 rfl, wq_at wl5_ok 16 rfl, wq_at wl5_ok 17 rfl⟩
theorem flj_9 : Cond.fieldLink RJ0 9 "java/lang/String" "value" "[B" ∈ lw_gd := wq_at wl15_ok 4 rfl
theorem flj_38 : Cond.fieldLink RJ0 38 "java/lang/String" "COMPACT_STRINGS" "Z" ∈ lw_gd := wq_at wl5_ok 11 rfl
theorem flj_15 : Cond.fieldLink RJ0 15 "java/lang/String" "coder" "B" ∈ lw_gd := wq_at wl15_ok 5 rfl
theorem flj_1053 : Cond.fieldLink RJ0 1053 "jdk/internal/util/Preconditions" "SIOOBE_FORMATTER" "Ljava/util/function/BiFunction;" ∈ lw_gd := wq_at wl5_ok 22 rfl
theorem cws_RX7_66 : Cond.methodLink RX7 66 yJ0_length_8abf5 ∈ lw_gd ∧ Cond.instanceMethod yJ0_length_8abf5 ∈ lw_gd ∧ Cond.selects yJ0_length_8abf5.cls yJ0_length_8abf5 yJ0_length_8abf5 ∈ lw_gd := ⟨wq_at wl5_ok 5 rfl, wq_at wl5_ok 6 rfl, wq_at wl5_ok 7 rfl⟩
theorem cws_RX7_72 : Cond.methodLink RX7 72 yJ0_charAt_5068e ∈ lw_gd ∧ Cond.instanceMethod yJ0_charAt_5068e ∈ lw_gd ∧ Cond.selects yJ0_charAt_5068e.cls yJ0_charAt_5068e yJ0_charAt_5068e ∈ lw_gd := ⟨wq_at wl5_ok 12 rfl, wq_at wl5_ok 13 rfl, wq_at wl5_ok 14 rfl⟩
theorem cws_RX3_106 : Cond.methodLink RX3 106 yJ0_length_8abf5 ∈ lw_gd ∧ Cond.instanceMethod yJ0_length_8abf5 ∈ lw_gd ∧ Cond.selects yJ0_length_8abf5.cls yJ0_length_8abf5 yJ0_length_8abf5 ∈ lw_gd := ⟨wq_at wl6_ok 4 rfl, wq_at wl5_ok 6 rfl, wq_at wl5_ok 7 rfl⟩
theorem cws_RX3_111 : Cond.methodLink RX3 111 yJ0_charAt_5068e ∈ lw_gd ∧ Cond.instanceMethod yJ0_charAt_5068e ∈ lw_gd ∧ Cond.selects yJ0_charAt_5068e.cls yJ0_charAt_5068e yJ0_charAt_5068e ∈ lw_gd := ⟨wq_at wl6_ok 5 rfl, wq_at wl5_ok 13 rfl, wq_at wl5_ok 14 rfl⟩
end
section
/-! 067: the JDK's length() and charAt() of the two texts -/
abbrev Tk (n : Nat) (M : Mem) (P : Pm) (v : Option Value) : Tg := fun rv n1 M1 P1 => rv = v ∧ n1 = n ∧ M1 = M ∧ P1 = P
theorem dJ0_length_8abf5_0 : decode cJ0_length_8abf5 0 = .ok (.aload_n 0, 1) := by decide +kernel
theorem dJ0_length_8abf5_1 : decode cJ0_length_8abf5 1 = .ok (.getfield 9, 3) := by decide +kernel
theorem dJ0_length_8abf5_4 : decode cJ0_length_8abf5 4 = .ok (.arraylength, 1) := by decide +kernel
theorem dJ0_length_8abf5_5 : decode cJ0_length_8abf5 5 = .ok (.aload_n 0, 1) := by decide +kernel
theorem dJ0_length_8abf5_6 : decode cJ0_length_8abf5 6 = .ok (.invokevirtual 335, 3) := by decide +kernel
theorem dJ0_length_8abf5_9 : decode cJ0_length_8abf5 9 = .ok (.ishr, 1) := by decide +kernel
theorem dJ0_length_8abf5_10 : decode cJ0_length_8abf5 10 = .ok (.ireturn, 1) := by decide +kernel
theorem dJ0_charAt_5068e_0 : decode cJ0_charAt_5068e 0 = .ok (.aload_n 0, 1) := by decide +kernel
theorem dJ0_charAt_5068e_1 : decode cJ0_charAt_5068e 1 = .ok (.invokevirtual 492, 3) := by decide +kernel
theorem dJ0_charAt_5068e_4 : decode cJ0_charAt_5068e 4 = .ok (.ifCond .eq 12, 3) := by decide +kernel
theorem dJ0_charAt_5068e_7 : decode cJ0_charAt_5068e 7 = .ok (.aload_n 0, 1) := by decide +kernel
theorem dJ0_charAt_5068e_8 : decode cJ0_charAt_5068e 8 = .ok (.getfield 9, 3) := by decide +kernel
theorem dJ0_charAt_5068e_11 : decode cJ0_charAt_5068e 11 = .ok (.iload_n 1, 1) := by decide +kernel
theorem dJ0_charAt_5068e_12 : decode cJ0_charAt_5068e 12 = .ok (.invokestatic 495, 3) := by decide +kernel
theorem dJ0_charAt_5068e_15 : decode cJ0_charAt_5068e 15 = .ok (.ireturn, 1) := by decide +kernel
theorem dJ0_charAt_5068e_16 : decode cJ0_charAt_5068e 16 = .ok (.aload_n 0, 1) := by decide +kernel
theorem dJ0_charAt_5068e_17 : decode cJ0_charAt_5068e 17 = .ok (.getfield 9, 3) := by decide +kernel
theorem dJ0_charAt_5068e_20 : decode cJ0_charAt_5068e 20 = .ok (.iload_n 1, 1) := by decide +kernel
theorem dJ0_charAt_5068e_21 : decode cJ0_charAt_5068e 21 = .ok (.invokestatic 498, 3) := by decide +kernel
theorem dJ0_charAt_5068e_24 : decode cJ0_charAt_5068e 24 = .ok (.ireturn, 1) := by decide +kernel
theorem dJ0_coder_7d493_0 : decode cJ0_coder_7d493 0 = .ok (.getstatic 38, 3) := by decide +kernel
theorem dJ0_coder_7d493_3 : decode cJ0_coder_7d493 3 = .ok (.ifCond .eq 10, 3) := by decide +kernel
theorem dJ0_coder_7d493_6 : decode cJ0_coder_7d493 6 = .ok (.aload_n 0, 1) := by decide +kernel
theorem dJ0_coder_7d493_7 : decode cJ0_coder_7d493 7 = .ok (.getfield 15, 3) := by decide +kernel
theorem dJ0_coder_7d493_10 : decode cJ0_coder_7d493 10 = .ok (.goto 4, 3) := by decide +kernel
theorem dJ0_coder_7d493_13 : decode cJ0_coder_7d493 13 = .ok (.iconst 1, 1) := by decide +kernel
theorem dJ0_coder_7d493_14 : decode cJ0_coder_7d493 14 = .ok (.ireturn, 1) := by decide +kernel
theorem dJ0_isLatin1_aae02_0 : decode cJ0_isLatin1_aae02 0 = .ok (.getstatic 38, 3) := by decide +kernel
theorem dJ0_isLatin1_aae02_3 : decode cJ0_isLatin1_aae02 3 = .ok (.ifCond .eq 14, 3) := by decide +kernel
theorem dJ0_isLatin1_aae02_6 : decode cJ0_isLatin1_aae02 6 = .ok (.aload_n 0, 1) := by decide +kernel
theorem dJ0_isLatin1_aae02_7 : decode cJ0_isLatin1_aae02 7 = .ok (.getfield 15, 3) := by decide +kernel
theorem dJ0_isLatin1_aae02_10 : decode cJ0_isLatin1_aae02 10 = .ok (.ifCond .ne 7, 3) := by decide +kernel
theorem dJ0_isLatin1_aae02_13 : decode cJ0_isLatin1_aae02 13 = .ok (.iconst 1, 1) := by decide +kernel
theorem dJ0_isLatin1_aae02_14 : decode cJ0_isLatin1_aae02 14 = .ok (.goto 4, 3) := by decide +kernel
theorem dJ0_isLatin1_aae02_17 : decode cJ0_isLatin1_aae02 17 = .ok (.iconst 0, 1) := by decide +kernel
theorem dJ0_isLatin1_aae02_18 : decode cJ0_isLatin1_aae02 18 = .ok (.ireturn, 1) := by decide +kernel
theorem dJ0_checkIndex_df160_0 : decode cJ0_checkIndex_df160 0 = .ok (.iload_n 0, 1) := by decide +kernel
theorem dJ0_checkIndex_df160_1 : decode cJ0_checkIndex_df160 1 = .ok (.iload_n 1, 1) := by decide +kernel
theorem dJ0_checkIndex_df160_2 : decode cJ0_checkIndex_df160 2 = .ok (.getstatic 1053, 3) := by decide +kernel
theorem dJ0_checkIndex_df160_5 : decode cJ0_checkIndex_df160 5 = .ok (.invokestatic 1059, 3) := by decide +kernel
theorem dJ0_checkIndex_df160_8 : decode cJ0_checkIndex_df160 8 = .ok (.pop, 1) := by decide +kernel
theorem dJ0_checkIndex_df160_9 : decode cJ0_checkIndex_df160 9 = .ok (.return_, 1) := by decide +kernel
theorem dJ1_charAt_3b067_0 : decode cJ1_charAt_3b067 0 = .ok (.iload_n 1, 1) := by decide +kernel
theorem dJ1_charAt_3b067_1 : decode cJ1_charAt_3b067 1 = .ok (.aload_n 0, 1) := by decide +kernel
theorem dJ1_charAt_3b067_2 : decode cJ1_charAt_3b067 2 = .ok (.arraylength, 1) := by decide +kernel
theorem dJ1_charAt_3b067_3 : decode cJ1_charAt_3b067 3 = .ok (.invokestatic 9, 3) := by decide +kernel
theorem dJ1_charAt_3b067_6 : decode cJ1_charAt_3b067 6 = .ok (.aload_n 0, 1) := by decide +kernel
theorem dJ1_charAt_3b067_7 : decode cJ1_charAt_3b067 7 = .ok (.iload_n 1, 1) := by decide +kernel
theorem dJ1_charAt_3b067_8 : decode cJ1_charAt_3b067 8 = .ok (.baload, 1) := by decide +kernel
theorem dJ1_charAt_3b067_9 : decode cJ1_charAt_3b067 9 = .ok (.sipush 255, 3) := by decide +kernel
theorem dJ1_charAt_3b067_12 : decode cJ1_charAt_3b067 12 = .ok (.iand, 1) := by decide +kernel
theorem dJ1_charAt_3b067_13 : decode cJ1_charAt_3b067 13 = .ok (.i2c, 1) := by decide +kernel
theorem dJ1_charAt_3b067_14 : decode cJ1_charAt_3b067 14 = .ok (.ireturn, 1) := by decide +kernel
theorem dJ3_checkIndex_8e157_0 : decode cJ3_checkIndex_8e157 0 = .ok (.iload_n 0, 1) := by decide +kernel
theorem dJ3_checkIndex_8e157_1 : decode cJ3_checkIndex_8e157 1 = .ok (.ifCond .lt 8, 3) := by decide +kernel
theorem dJ3_checkIndex_8e157_4 : decode cJ3_checkIndex_8e157 4 = .ok (.iload_n 0, 1) := by decide +kernel
theorem dJ3_checkIndex_8e157_5 : decode cJ3_checkIndex_8e157 5 = .ok (.iload_n 1, 1) := by decide +kernel
theorem dJ3_checkIndex_8e157_6 : decode cJ3_checkIndex_8e157 6 = .ok (.if_icmp .lt 10, 3) := by decide +kernel
theorem dJ3_checkIndex_8e157_9 : decode cJ3_checkIndex_8e157 9 = .ok (.aload_n 2, 1) := by decide +kernel
theorem dJ3_checkIndex_8e157_10 : decode cJ3_checkIndex_8e157 10 = .ok (.iload_n 0, 1) := by decide +kernel
theorem dJ3_checkIndex_8e157_11 : decode cJ3_checkIndex_8e157 11 = .ok (.iload_n 1, 1) := by decide +kernel
theorem dJ3_checkIndex_8e157_12 : decode cJ3_checkIndex_8e157 12 = .ok (.invokestatic 95, 3) := by decide +kernel
theorem dJ3_checkIndex_8e157_15 : decode cJ3_checkIndex_8e157 15 = .ok (.athrow, 1) := by decide +kernel
theorem dJ3_checkIndex_8e157_16 : decode cJ3_checkIndex_8e157 16 = .ok (.iload_n 0, 1) := by decide +kernel
theorem dJ3_checkIndex_8e157_17 : decode cJ3_checkIndex_8e157 17 = .ok (.ireturn, 1) := by decide +kernel

section RJ
variable {K : Cx} {own : String} {cc : ByteArray} {n : Nat} {M : Mem} {P : Pm} {pc : Nat} {loc : List (Option Value)} {st : List Value}
theorem wad_4 {w : Wd} {i : Nat} : cv w (.ref (1004 + i)) = .ref (wX w (4 + i)) := by
  show Value.ref (wad w (1004 + i)) = _
  rw [show 1004 + i = 1000 + (4 + i) by omega, wad_x]
theorem wad_6 {w : Wd} {i : Nat} : cv w (.ref (1006 + i)) = .ref (wX w (6 + i)) := by
  show Value.ref (wad w (1006 + i)) = _
  rw [show 1006 + i = 1000 + (6 + i) by omega, wad_x]
theorem aw_strval (C : Ctx K RJ0 cc) {i : Nat} (hi : i < 2) (d : decode cc pc = .ok (.getfield 9, 3)) (kk : AW K n M P (pc + 3) loc (.ref (1006 + i) :: st)) : AW K n M P pc loc (.ref (1004 + i) :: st) := by
  intro ls H locs hl hP hS
  have g := (C.2.2.2.2.2.1.2.2.2.2.1.1 i hi).2.2.1
  have k := kk ls H locs hl hP hS
  rw [List.map_cons, wad_6] at k
  rw [List.map_cons, wad_4]
  exact vk_getf C.1 C.2.1 g hS C.2.2.2.1 (C.2.2.2.2.1 _ flj_9) (fun _ h => h) d k
theorem aw_strcod (C : Ctx K RJ0 cc) {i : Nat} (hi : i < 2) (d : decode cc pc = .ok (.getfield 15, 3)) (kk : AW K n M P (pc + 3) loc (.int 0 :: st)) : AW K n M P pc loc (.ref (1004 + i) :: st) := by
  intro ls H locs hl hP hS
  have g := (C.2.2.2.2.2.1.2.2.2.2.1.1 i hi).2.1
  have k := kk ls H locs hl hP hS
  rw [List.map_cons, wad_4]
  exact vk_getf C.1 C.2.1 g hS C.2.2.2.1 (C.2.2.2.2.1 _ flj_15) (fun _ h => h) d k
theorem aw_strarl (C : Ctx K own cc) {i : Nat} (hi : i < 2) (d : decode cc pc = .ok (.arraylength, 1)) (kk : AW K n M P (pc + 1) loc (.int (Int32.ofNat (txLen.getD i 0)) :: st)) : AW K n M P pc loc (.ref (1006 + i) :: st) := by
  intro ls H locs hl hP hS
  have g := (C.2.2.2.2.2.1.2.2.2.2.1.1 i hi).2.2.2
  have k := kk ls H locs hl hP hS
  rw [List.map_cons, wad_6]
  exact va_tlen C.1 C.2.1 g hS rfl d k
theorem aw_strbal (C : Ctx K own cc) {i : Nat} {x : Int32} (hi : i < 2) (hx : ib x (txLen.getD i 0)) (d : decode cc pc = .ok (.baload, 1)) (kk : AW K n M P (pc + 1) loc (.int ((txByt.getD i []).getD (ix x) 0) :: st)) : AW K n M P pc loc (.int x :: .ref (1006 + i) :: st) := by
  intro ls H locs hl hP hS
  have g := (C.2.2.2.2.2.1.2.2.2.2.1.1 i hi).2.2.2
  have k := kk ls H locs hl hP hS
  rw [List.map_cons, List.map_cons, wad_6]
  exact va_tb C.1 C.2.1 g hS (ib_in hx) rfl d k
theorem aw_compact (C : Ctx K RJ0 cc) (d : decode cc pc = .ok (.getstatic 38, 3)) (kk : AW K n M P (pc + 3) loc (.int 1 :: st)) : AW K n M P pc loc st := by
  intro ls H locs hl hP hS
  exact va_gets C.1 C.2.1 C.2.2.2.2.2.1.2.2.2.2.2.1.1 hS C.2.2.2.1 (C.2.2.2.2.1 _ flj_38) (fun _ h => h) d (kk ls H locs hl hP hS)
theorem aw_fmt (C : Ctx K RJ0 cc) (d : decode cc pc = .ok (.getstatic 1053, 3)) (k1 : AW K n M P (pc + 3) loc (.null :: st)) (k2 : AW K n M P (pc + 3) loc (.ref 1009 :: st)) : AW K n M P pc loc st := by
  intro ls H locs hl hP hS
  rcases C.2.2.2.2.2.1.2.2.2.2.2.1.2 with g | g
  · exact va_gets C.1 C.2.1 g hS C.2.2.2.1 (C.2.2.2.2.1 _ flj_1053) (fun _ h => h) d (k1 ls H locs hl hP hS)
  · have k := k2 ls H locs hl hP hS
    rw [List.map_cons, show cv (kw K) (.ref 1009) = .ref (wX (kw K) 9) from congrArg Value.ref (wad_x (j := 9))] at k
    exact va_gets C.1 C.2.1 g hS C.2.2.2.1 (C.2.2.2.2.1 _ flj_1053) (fun _ h => h) d k
/-- invokevirtual on one of the texts -/
theorem aw_cVs (C : Ctx K own cc) (hR : Rm K n) {i lk na maxL lv : Nat} {y : MethodName} {bytes : ByteArray} {ret : Option FieldType} (as rest : List Value) {T : Tg} (hi : i < 2) (d : decode cc pc = .ok (.invokevirtual lk, 3)) (hM : CM (kl K) (kw K) y bytes maxL ret lv 0 0 (.ref (1004 + i) :: as) n M P T) (mf : MF y bytes maxL ret na) (hy : y.cls = "java/lang/String") (hw : Cond.methodLink own lk y ∈ lw_gd ∧ Cond.instanceMethod y ∈ lw_gd ∧ Cond.selects y.cls y y ∈ lw_gd) (hna : as.length = na) (hlv : lv + 1 ≤ (kR K).frames) (hs : st = as.reverse ++ .ref (1004 + i) :: rest) (hst : (rest.map fun v => v.category).sum ≤ 8)
    (hT : ∀ rv n1 M1 P1, T rv n1 M1 P1 → n1 = n + 0 ∧ sln n1 = sln n + 0) (kk : ∀ rv n1 M1 P1, T rv n1 M1 P1 → AW K n1 M1 P1 (pc + 3) loc (rv.toList ++ rest)) : AW K n M P pc loc st := by
  intro ls H locs hl hP hS T0 hT0 X
  have hz := aw_size C hR.1 hP hS hT0 X
  refine aw_after hR.1 hT0 X (va_runV (As := as.map (cv (kw K))) (rest := rest.map (cv (kw K))) (b := wX (kw K) (4 + i)) (C := "java/lang/String") (fix_of C) hM ⟨callB_gd C mf hw.1 hlv, C.2.2.2.2.1 _ hw.2.1, by have h := hw.2.2; rw [hy] at h; exact C.2.2.2.2.1 _ h⟩ ⟨pc_blind, vk_recv (adK := fun i => wX (kw K) (4 + i)) (i := i) C.2.2.2.2.2.1.2.2.2.2.1 hi hS, fun U hU hW => ⟨?_, C.2.2.2.2.2.1.move hS hU hW, by rw [hU]; exact hz, by rw [hU]; exact hP⟩⟩ rfl (by rw [List.length_map]; exact hna) hl.1 ?_ (lv_room (by rw [cat_map]; exact hst)) d hR.2) hS hl hT kk
  · rw [List.map_cons, wad_4]
  · show st.map (cv (kw K)) = _
    rw [hs, List.map_append, List.map_cons, List.map_reverse, wad_4]
end RJ
section CJ
variable {l : Launch} {w : Wd} {n : Nat} {M : Mem} {P : Pm}
theorem rm_of {K : Cx} (hn : kn K = n) : Rm K n := ⟨by rw [hn]; exact Nat.le_refl _, by rw [hn, Nat.sub_self]; exact Nat.zero_le _, by rw [hn, Nat.sub_self]; exact Nat.zero_le _⟩
theorem hm_of {K : Cx} (hn : kn K = n) : n - kn K ≤ 0 ∧ sln n - sln (kn K) ≤ 0 := ⟨by rw [hn, Nat.sub_self]; exact Nat.le_refl _, by rw [hn, Nat.sub_self]; exact Nat.le_refl _⟩
theorem Tk0 {v : Option Value} : ∀ rv n1 M1 P1, Tk n M P v rv n1 M1 P1 → n1 = n + 0 ∧ sln n1 = sln n + 0 := fun _ _ _ _ t => ⟨t.2.1, by rw [t.2.1, Nat.add_zero]⟩
theorem m_pci {i N : Int32} {v : Value} (hi : 0 ≤ i) (hN : i < N) (hv : v = .null ∨ v = .ref 1009) : CM l w yJ3_checkIndex_8e157 cJ3_checkIndex_8e157 3 (some .int) 1 0 0 [.int i, .int N, v] n M P (Tk n M P (some (.int i))) := by
  have key : ∀ K : Cx, Ctx K yJ3_checkIndex_8e157.cls cJ3_checkIndex_8e157 → RT K (some .int) (Tk n M P (some (.int i))) 0 0 → kn K = n → AW K n M P 0 [some (.int i), some (.int N), none] [] := by
    intro K C rt hn
    refine aw_iload_n C dJ3_checkIndex_8e157_0 rfl ?_
    refine aw_if_lt (A := (none : Option Unit)) (B := some ()) (r := ()) C 9 dJ3_checkIndex_8e157_1 (by decide) (if_neg (Int32.not_lt.mpr hi)) (fun h => by cases h) (fun _ => ?_)
    refine aw_iload_n C dJ3_checkIndex_8e157_4 rfl ?_
    refine aw_iload_n C dJ3_checkIndex_8e157_5 rfl ?_
    refine aw_icmp_lt (A := some ()) (B := (none : Option Unit)) (r := ()) C 16 dJ3_checkIndex_8e157_6 (by decide) (if_pos hN) (fun _ => ?_) (fun h => by cases h)
    refine aw_iload_n C dJ3_checkIndex_8e157_16 rfl ?_
    exact aw_iret C rt rfl (hm_of hn) dJ3_checkIndex_8e157_17 ⟨rfl, rfl, rfl, rfl⟩
  rcases hv with rfl | rfl
  · exact cm_of (loc := [some (.int i), some (.int N), some .null]) mf_pci (by decide) (Nat.le_of_ble_eq_true rfl) rfl (fun K C rt _ _ _ hn _ _ => aw_loc _ (sl_k (sl_k (sl_n sl_0))) (key K C rt hn))
  · exact cm_of (loc := [some (.int i), some (.int N), some (.ref 1009)]) mf_pci (by decide) (Nat.le_of_ble_eq_true rfl) rfl (fun K C rt _ _ _ hn _ _ => aw_loc _ (sl_k (sl_k (sl_n sl_0))) (key K C rt hn))
theorem m_sci {i N : Int32} (hi : 0 ≤ i) (hN : i < N) : CM l w yJ0_checkIndex_df160 cJ0_checkIndex_df160 2 none 2 0 0 [.int i, .int N] n M P (Tk n M P none) := by
  refine cm_of (loc := [some (.int i), some (.int N)]) mf_sci (by decide) (Nat.le_of_ble_eq_true rfl) rfl (fun K C rt _ _ _ hn hR _ => ?_)
  refine aw_iload_n C dJ0_checkIndex_df160_0 rfl ?_
  refine aw_iload_n C dJ0_checkIndex_df160_1 rfl ?_
  have go : ∀ v : Value, v = .null ∨ v = .ref 1009 → AW K n M P 5 [some (.int i), some (.int N)] [v, .int N, .int i] := by
    intro v hv
    refine aw_cS (as := [.int i, .int N, v]) (rest := []) C (rm_of hn) dJ0_checkIndex_df160_5 (m_pci hi hN hv) mf_pci cwj_95 rfl (by rw [hR]; decide) rfl (Nat.le_of_ble_eq_true rfl) (rm_of hn).2 Tk0 (fun rv n1 M1 P1 t => ?_)
    obtain ⟨rfl, rfl, rfl, rfl⟩ := t
    refine aw_pop C dJ0_checkIndex_df160_8 rfl ?_
    exact aw_vret C rt (hm_of hn) dJ0_checkIndex_df160_9 ⟨rfl, rfl, rfl, rfl⟩
  exact aw_fmt C dJ0_checkIndex_df160_2 (go _ (Or.inl rfl)) (go _ (Or.inr rfl))
theorem tx_len : ∀ i, i < 2 → txLen.getD i 0 < 100 ∧ ∀ k, k < 100 → (txByt.getD i []).getD k 0 &&& 255 = (txByt.getD i []).getD k 0 ∧ ((txByt.getD i []).getD k 0).toUInt32 % 65536 = ((txByt.getD i []).getD k 0).toUInt32 := by decide +kernel
theorem ib_pos {i : Int32} {N : Nat} (h : ib i N) : 0 ≤ i := by rw [Int32.le_iff_toInt_le]; exact h.1
theorem ib_lt {i : Int32} {N : Nat} (hN : N < 2 ^ 31) (h : ib i N) : i < Int32.ofNat N := by
  rw [Int32.lt_iff_toInt_lt]
  have : (Int32.ofNat N).toInt = (N : Int) := nI_toInt hN
  rw [this]
  exact h.2
theorem m_lch {i : Nat} {x : Int32} (hi : i < 2) (hx : ib x (txLen.getD i 0)) : CM l w yJ1_charAt_3b067 cJ1_charAt_3b067 2 (some .char) 3 0 0 [.ref (1006 + i), .int x] n M P (Tk n M P (some (.int ((txByt.getD i []).getD (ix x) 0)))) := by
  have hL := (tx_len i hi).1
  have hb := (tx_len i hi).2 (ix x) (Nat.lt_trans (ix_lt hx) hL)
  refine cm_of (loc := [some (.ref (1006 + i)), some (.int x)]) mf_lch (by decide) (Nat.le_of_ble_eq_true rfl) rfl (fun K C rt _ _ _ hn hR _ => ?_)
  refine aw_iload_n C dJ1_charAt_3b067_0 rfl ?_
  refine aw_aload_n C dJ1_charAt_3b067_1 rfl ?_
  refine aw_strarl C hi dJ1_charAt_3b067_2 ?_
  refine aw_cS (as := [.int x, .int (Int32.ofNat (txLen.getD i 0))]) (rest := []) C (rm_of hn) dJ1_charAt_3b067_3 (m_sci (ib_pos hx) (ib_lt (by omega) hx)) mf_sci cwj_9 rfl (by rw [hR]; decide) rfl (Nat.le_of_ble_eq_true rfl) (rm_of hn).2 Tk0 (fun rv n1 M1 P1 t => ?_)
  obtain ⟨rfl, rfl, rfl, rfl⟩ := t
  refine aw_aload_n C dJ1_charAt_3b067_6 rfl ?_
  refine aw_iload_n C dJ1_charAt_3b067_7 rfl ?_
  refine aw_strbal C hi hx dJ1_charAt_3b067_8 ?_
  refine aw_sipush (v := 255) C dJ1_charAt_3b067_9 (by decide) ?_
  refine aw_iand C dJ1_charAt_3b067_12 ?_
  rw [hb.1]
  refine aw_i2c C dJ1_charAt_3b067_13 ?_
  have e : (((txByt.getD i []).getD (ix x) 0).toUInt32 % 65536).toInt32 = (txByt.getD i []).getD (ix x) 0 := by rw [hb.2]; rfl
  rw [e]
  refine aw_iret C rt ?_ (hm_of hn) dJ1_charAt_3b067_14 ⟨rfl, rfl, rfl, rfl⟩
  have hnar : narrow .char (.int ((((txByt.getD i []).getD (ix x) 0).toUInt32 % 65536).toInt32)) = .int ((((txByt.getD i []).getD (ix x) 0).toUInt32 % 65536).toInt32) := pk_nc _
  rw [e] at hnar
  exact hnar
theorem m_cod {i : Nat} (hi : i < 2) : CM l w yJ0_coder_7d493 cJ0_coder_7d493 1 (some .byte) 1 0 0 [.ref (1004 + i)] n M P (Tk n M P (some (.int 0))) := by
  refine cm_of (loc := [some (.ref (1004 + i))]) mf_cod (by decide) (Nat.le_of_ble_eq_true rfl) rfl (fun K C rt _ _ _ hn hR _ => ?_)
  refine aw_compact C dJ0_coder_7d493_0 ?_
  refine aw_if_eq (A := (none : Option Unit)) (B := some ()) (r := ()) C 13 dJ0_coder_7d493_3 (by decide) (if_neg (by decide)) (fun h => by cases h) (fun _ => ?_)
  refine aw_aload_n C dJ0_coder_7d493_6 rfl ?_
  refine aw_strcod C hi dJ0_coder_7d493_7 ?_
  refine aw_goto C 14 dJ0_coder_7d493_10 (by decide) ?_
  exact aw_iret C rt rfl (hm_of hn) dJ0_coder_7d493_14 ⟨rfl, rfl, rfl, rfl⟩
theorem m_isl {i : Nat} (hi : i < 2) : CM l w yJ0_isLatin1_aae02 cJ0_isLatin1_aae02 1 (some .boolean) 1 0 0 [.ref (1004 + i)] n M P (Tk n M P (some (.int 1))) := by
  refine cm_of (loc := [some (.ref (1004 + i))]) mf_isl (by decide) (Nat.le_of_ble_eq_true rfl) rfl (fun K C rt _ _ _ hn hR _ => ?_)
  refine aw_compact C dJ0_isLatin1_aae02_0 ?_
  refine aw_if_eq (A := (none : Option Unit)) (B := some ()) (r := ()) C 17 dJ0_isLatin1_aae02_3 (by decide) (if_neg (by decide)) (fun h => by cases h) (fun _ => ?_)
  refine aw_aload_n C dJ0_isLatin1_aae02_6 rfl ?_
  refine aw_strcod C hi dJ0_isLatin1_aae02_7 ?_
  refine aw_if_ne (A := some ()) (B := (none : Option Unit)) (r := ()) C 17 dJ0_isLatin1_aae02_10 (by decide) (if_pos rfl) (fun _ => ?_) (fun h => by cases h)
  refine aw_iconst C dJ0_isLatin1_aae02_13 (v := 1) (by decide) ?_
  refine aw_goto C 18 dJ0_isLatin1_aae02_14 (by decide) ?_
  exact aw_iret C rt rfl (hm_of hn) dJ0_isLatin1_aae02_18 ⟨rfl, rfl, rfl, rfl⟩
theorem m_len {i : Nat} (hi : i < 2) : CM l w yJ0_length_8abf5 cJ0_length_8abf5 1 (some .int) 2 0 0 [.ref (1004 + i)] n M P (Tk n M P (some (.int (Int32.ofNat (txLen.getD i 0))))) := by
  refine cm_of (loc := [some (.ref (1004 + i))]) mf_len (by decide) (Nat.le_of_ble_eq_true rfl) rfl (fun K C rt _ _ _ hn hR _ => ?_)
  refine aw_aload_n C dJ0_length_8abf5_0 rfl ?_
  refine aw_strval C hi dJ0_length_8abf5_1 ?_
  refine aw_strarl C hi dJ0_length_8abf5_4 ?_
  refine aw_aload_n C dJ0_length_8abf5_5 rfl ?_
  refine aw_cVs C (rm_of hn) [] [.int (Int32.ofNat (txLen.getD i 0))] hi dJ0_length_8abf5_6 (m_cod hi) mf_cod rfl cwj_335 rfl (by rw [hR]; decide) rfl (Nat.le_of_ble_eq_true rfl) Tk0 (fun rv n1 M1 P1 t => ?_)
  obtain ⟨rfl, rfl, rfl, rfl⟩ := t
  refine aw_ishr C dJ0_length_8abf5_9 ?_
  rw [sb_shr0]
  exact aw_iret C rt rfl (hm_of hn) dJ0_length_8abf5_10 ⟨rfl, rfl, rfl, rfl⟩
theorem m_cha {i : Nat} {x : Int32} (hi : i < 2) (hx : ib x (txLen.getD i 0)) : CM l w yJ0_charAt_5068e cJ0_charAt_5068e 2 (some .char) 4 0 0 [.ref (1004 + i), .int x] n M P (Tk n M P (some (.int ((txByt.getD i []).getD (ix x) 0)))) := by
  have hL := (tx_len i hi).1
  have hb := (tx_len i hi).2 (ix x) (Nat.lt_trans (ix_lt hx) hL)
  refine cm_of (loc := [some (.ref (1004 + i)), some (.int x)]) mf_cha (by decide) (Nat.le_of_ble_eq_true rfl) rfl (fun K C rt _ _ _ hn hR _ => ?_)
  refine aw_aload_n C dJ0_charAt_5068e_0 rfl ?_
  refine aw_cVs C (rm_of hn) [] [] hi dJ0_charAt_5068e_1 (m_isl hi) mf_isl rfl cwj_492 rfl (by rw [hR]; decide) rfl (Nat.le_of_ble_eq_true rfl) Tk0 (fun rv n1 M1 P1 t => ?_)
  obtain ⟨rfl, rfl, rfl, rfl⟩ := t
  refine aw_if_eq (A := (none : Option Unit)) (B := some ()) (r := ()) C 16 dJ0_charAt_5068e_4 (by decide) (if_neg (by decide)) (fun h => by cases h) (fun _ => ?_)
  refine aw_aload_n C dJ0_charAt_5068e_7 rfl ?_
  refine aw_strval C hi dJ0_charAt_5068e_8 ?_
  refine aw_iload_n C dJ0_charAt_5068e_11 rfl ?_
  refine aw_cS (as := [.ref (1006 + i), .int x]) (rest := []) C (rm_of hn) dJ0_charAt_5068e_12 (m_lch hi hx) mf_lch cwj_495 rfl (by rw [hR]; decide) rfl (Nat.le_of_ble_eq_true rfl) (rm_of hn).2 Tk0 (fun rv n1 M1 P1 t => ?_)
  obtain ⟨rfl, rfl, rfl, rfl⟩ := t
  have e : (((txByt.getD i []).getD (ix x) 0).toUInt32 % 65536).toInt32 = (txByt.getD i []).getD (ix x) 0 := by rw [hb.2]; rfl
  have hnar : narrow .char (.int ((((txByt.getD i []).getD (ix x) 0).toUInt32 % 65536).toInt32)) = .int ((((txByt.getD i []).getD (ix x) 0).toUInt32 % 65536).toInt32) := pk_nc _
  rw [e] at hnar
  exact aw_iret C rt hnar (hm_of hn) dJ0_charAt_5068e_15 ⟨rfl, rfl, rfl, rfl⟩
end CJ
section SJ
variable {K : Cx} {own : String} {cc : ByteArray} {n : Nat} {M : Mem} {pc : Nat} {loc : List (Option Value)} {st rest : List Value} {lv0 nL0 : Nat} {ret0 : Option FieldType} {T0 : Tg}
variable {β : Type} {A B : Option β} {r : β}
theorem sw_ldcS0 {P : Pm} (C : Ctx K RX7 cc) (d : decode cc pc = .ok (.ldc 64, 2)) (kk : AW K n M P (pc + 2) loc (.ref 1004 :: st)) : AW K n M P pc loc st := by
  intro ls H locs hl hP hS
  have k := kk ls H locs hl hP hS
  rw [List.map_cons, show cv (kw K) (.ref 1004) = .ref (wX (kw K) 4) from wad_4 (i := 0)] at k
  exact va_ldcS C.1 C.2.1 C.2.2.2.1 C.2.2.2.2.2.1.2.2.2.1.1 d k
theorem sw_ldcS1 {P : Pm} (C : Ctx K RX3 cc) (d : decode cc pc = .ok (.ldc 104, 2)) (kk : AW K n M P (pc + 2) loc (.ref 1005 :: st)) : AW K n M P pc loc st := by
  intro ls H locs hl hP hS
  have k := kk ls H locs hl hP hS
  rw [List.map_cons, show cv (kw K) (.ref 1005) = .ref (wX (kw K) 5) from wad_4 (i := 1)] at k
  exact va_ldcS C.1 C.2.1 C.2.2.2.1 C.2.2.2.2.2.1.2.2.2.1.2 d k
theorem sw_strlen (C : Ctx K own cc) (j : Nat) (S : SS K n lv0 nL0 ret0 T0) (hj : j < 2) {lk : Nat} (hw : Cond.methodLink own lk yJ0_length_8abf5 ∈ lw_gd ∧ Cond.instanceMethod yJ0_length_8abf5 ∈ lw_gd ∧ Cond.selects yJ0_length_8abf5.cls yJ0_length_8abf5 yJ0_length_8abf5 ∈ lw_gd) (hlv : 3 ≤ lv0) (d : decode cc pc = .ok (.invokevirtual lk, 3)) (hst : (rest.map fun v => v.category).sum ≤ 8) (kk : AS K n M (pc + 3) loc (.int (Int32.ofNat (txLen.getD j 0)) :: rest)) : AS K n M pc loc (.ref (1004 + j) :: rest) := by
  refine aw_cVs C S.1 [] rest hj d (m_len hj) mf_len rfl hw rfl (Nat.le_trans hlv S.2.2.1) rfl hst Tk0 (fun rv n1 M1 P1 t => ?_)
  obtain ⟨rfl, rfl, rfl, rfl⟩ := t
  exact kk
theorem sw_charAt (C : Ctx K own cc) (j N : Nat) (S : SS K n lv0 nL0 ret0 T0) (hj : j < 2) (hN : txLen.getD j 0 = N) {lk : Nat} {x : Int32} (hw : Cond.methodLink own lk yJ0_charAt_5068e ∈ lw_gd ∧ Cond.instanceMethod yJ0_charAt_5068e ∈ lw_gd ∧ Cond.selects yJ0_charAt_5068e.cls yJ0_charAt_5068e yJ0_charAt_5068e ∈ lw_gd) (hlv : 5 ≤ lv0) (d : decode cc pc = .ok (.invokevirtual lk, 3)) (hst : (rest.map fun v => v.category).sum ≤ 8) (h : (if ib x N then A else none) = some r) (kk : A = some r → AS K n M (pc + 3) loc (.int ((txByt.getD j []).getD (ix x) 0) :: rest)) : AS K n M pc loc (.int x :: .ref (1004 + j) :: rest) := by
  by_cases hx : ib x N
  · rw [if_pos hx] at h
    subst hN
    refine aw_cVs C S.1 [.int x] rest hj d (m_cha hj hx) mf_cha rfl hw rfl (Nat.le_trans hlv S.2.2.1) rfl hst Tk0 (fun rv n1 M1 P1 t => ?_)
    obtain ⟨rfl, rfl, rfl, rfl⟩ := t
    exact kk h
  · rw [if_neg hx] at h
    cases h
end SJ
end
section
/-! 08: the functions that the methods compute -/
def fD_isAllDone_b30 (k2 : Int32 → Mem → Option (Int32 × Mem)) (a1 : Int32) (M : Mem) : Option (Int32 × Mem) :=
  k2 (a1 + 1) M
def fD_isAllDone_b2 : Nat → Int32 → Mem → Option (Int32 × Mem)
  | 0, _, _ => none
  | z + 1, a1, M =>
    if 8 ≤ a1 then
      some (1, M)
    else
      if (((M 45 12) >>> (a1 &&& 31)) &&& 1) = 0 then
        fD_isAllDone_b30 (fD_isAllDone_b2 z) a1 M
      else
        if ib a1 8 then
        if (M 56 (ix a1)) ≤ 0 then
          fD_isAllDone_b30 (fD_isAllDone_b2 z) a1 M
        else
          some (0, M)
        else none
def fD_isAllDone (M : Mem) : Option (Int32 × Mem) :=
  fD_isAllDone_b2 1000 0 M
def fD_othersWith_b47 (k4 : Int32 → Int32 → Mem → Option (Int32 × Mem)) (a1 : Int32) (a2 : Int32) (a3 : Int32) (M : Mem) : Option (Int32 × Mem) :=
  k4 a2 (a3 + 1) M
def fD_othersWith_b4 (a1 : Int32) : Nat → Int32 → Int32 → Mem → Option (Int32 × Mem)
  | 0, _, _, _ => none
  | z + 1, a2, a3, M =>
    if hOK (ix (M 45 0)) then
    if (M (ix (M 45 0)) 2) ≤ a3 then
      some (a2, M)
    else
      if a3 = a1 then
        fD_othersWith_b47 (fD_othersWith_b4 a1 z) a1 a2 a3 M
      else
        if ib a3 4 then
        if (M 52 (ix a3)) = 0 then
          if ib a3 4 then
          if ib a1 4 then
          if (M 50 (ix a3)) = (M 50 (ix a1)) then
            fD_othersWith_b47 (fD_othersWith_b4 a1 z) a1 (a2 + 1) a3 M
          else
            fD_othersWith_b47 (fD_othersWith_b4 a1 z) a1 a2 a3 M
          else none
          else none
        else
          fD_othersWith_b47 (fD_othersWith_b4 a1 z) a1 a2 a3 M
        else none
    else none
def fD_othersWith (a1 : Int32) (M : Mem) : Option (Int32 × Mem) :=
  fD_othersWith_b4 a1 1000 0 0 M
def fG_joined_b116 (M : Mem) : Option (Int32 × Mem) :=
  some (1, M)
def fG_joined (a0 : Int32) (a1 : Int32) (a2 : Int32) (M : Mem) : Option (Int32 × Mem) :=
  if a0 = 10 then
    if a1 = 0 then
      some (0, M)
    else
      if a2 = 0 then
        some (0, M)
      else
        some (1, M)
  else
  if a0 = 42 then
    some ((a1 * a2), M)
  else
  if a0 = 43 then
    some ((a1 + a2), M)
  else
  if a0 = 45 then
    some ((a1 - a2), M)
  else
  if a0 = 60 then
    if a2 ≤ a1 then
      some (0, M)
    else
      some (1, M)
  else
  if a0 = 61 then
    if a1 = a2 then
      some (1, M)
    else
      some (0, M)
  else
    if a1 = 0 then
      if a2 = 0 then
        some (0, M)
      else
        fG_joined_b116 M
    else
      fG_joined_b116 M
def fG_value_b177 (k21 : Int32 → Int32 → Mem → Option (Int32 × Mem)) (q0 : Nat) (a1 : Int32) (a4 : Int32) (a5 : Int32) (M : Mem) : Option (Int32 × Mem) :=
  k21 a4 (a5 + 1) M
def fG_value_b146 (k21 : Int32 → Int32 → Mem → Option (Int32 × Mem)) (q0 : Nat) (a1 : Int32) (a4 : Int32) (a5 : Int32) (a6 : Int32) (M : Mem) : Option (Int32 × Mem) :=
  if a4 < 2 then
    fG_value_b177 k21 q0 a1 a4 a5 M
  else
    if ib ((a4 + (-1)) - 1) 160 then
    if ib (a4 + (-1)) 160 then
    (fG_joined (-a6) (M 49 (ix ((a4 + (-1)) - 1))) (M 49 (ix (a4 + (-1)))) M).bind fun w1 =>
    if ib ((a4 + (-1)) - 1) 160 then
    fG_value_b177 k21 q0 a1 (a4 + (-1)) a5 (wr w1.2 49 (ix ((a4 + (-1)) - 1)) w1.1)
    else none
    else none
    else none
def fG_value_b142 (k21 : Int32 → Int32 → Mem → Option (Int32 × Mem)) (q0 : Nat) (a1 : Int32) (a4 : Int32) (a5 : Int32) (s0 : Int32) (s1 : Int32) (M : Mem) : Option (Int32 × Mem) :=
  if ib s1 160 then
  fG_value_b177 k21 q0 a1 a4 a5 (wr M 49 (ix s1) s0)
  else none
def fG_value_b110 (k21 : Int32 → Int32 → Mem → Option (Int32 × Mem)) (q0 : Nat) (a1 : Int32) (a4 : Int32) (a5 : Int32) (a6 : Int32) (M : Mem) : Option (Int32 × Mem) :=
  if a6 = (-11) then
    if a4 < 1 then
      fG_value_b146 k21 q0 a1 a4 a5 a6 M
    else
      if ib (a4 - 1) 160 then
      if (M 49 (ix (a4 - 1))) = 0 then
        fG_value_b142 k21 q0 a1 a4 a5 1 (a4 - 1) M
      else
        fG_value_b142 k21 q0 a1 a4 a5 0 (a4 - 1) M
      else none
  else
    fG_value_b146 k21 q0 a1 a4 a5 a6 M
def fG_value_b81 (k21 : Int32 → Int32 → Mem → Option (Int32 × Mem)) (q0 : Nat) (a1 : Int32) (a4 : Int32) (a5 : Int32) (a6 : Int32) (M : Mem) : Option (Int32 × Mem) :=
  if a6 = (-12) then
    if a4 < 1 then
      fG_value_b110 k21 q0 a1 a4 a5 a6 M
    else
      if ib (a4 - 1) 160 then
      if ib (a4 - 1) 160 then
      fG_value_b177 k21 q0 a1 a4 a5 (wr M 49 (ix (a4 - 1)) (-(M 49 (ix (a4 - 1)))))
      else none
      else none
  else
    fG_value_b110 k21 q0 a1 a4 a5 a6 M
def fG_value_b74 (k21 : Int32 → Int32 → Mem → Option (Int32 × Mem)) (q0 : Nat) (a1 : Int32) (a4 : Int32) (a5 : Int32) (s0 : Int32) (s1 : Int32) (M : Mem) : Option (Int32 × Mem) :=
  if ib s1 160 then
  fG_value_b177 k21 q0 a1 (a4 + 1) a5 (wr M 49 (ix s1) s0)
  else none
def fG_value_b21 (q0 : Nat) (a1 : Int32) : Nat → Int32 → Int32 → Mem → Option (Int32 × Mem)
  | 0, _, _, _ => none
  | z + 1, a4, a5, M =>
    if ib a1 3 then
    if (M (q0 + 2) (ix a1)) ≤ a5 then
      if ib 0 160 then
      some ((M 49 (ix 0)), M)
      else none
    else
      if ib a5 160 then
      if (M (q0 + 1) (ix a5)) < (-6) then
        fG_value_b81 (fG_value_b21 q0 a1 z) q0 a1 a4 a5 (M (q0 + 1) (ix a5)) M
      else
        if (Int32.ofNat 160) ≤ a4 then
          fG_value_b81 (fG_value_b21 q0 a1 z) q0 a1 a4 a5 (M (q0 + 1) (ix a5)) M
        else
          if (M (q0 + 1) (ix a5)) < 0 then
            if ib ((-1) - (M (q0 + 1) (ix a5))) 6 then
            fG_value_b74 (fG_value_b21 q0 a1 z) q0 a1 a4 a5 (M 48 (ix ((-1) - (M (q0 + 1) (ix a5))))) a4 M
            else none
          else
            fG_value_b74 (fG_value_b21 q0 a1 z) q0 a1 a4 a5 (M (q0 + 1) (ix a5)) a4 M
      else none
    else none
def fG_value_b19 (q0 : Nat) (a1 : Int32) (a4 : Int32) (s0 : Int32) (M : Mem) : Option (Int32 × Mem) :=
  fG_value_b21 q0 a1 1000 a4 s0 M
def fG_value (q0 : Nat) (a1 : Int32) (M : Mem) : Option (Int32 × Mem) :=
  if a1 = 0 then
    fG_value_b19 q0 a1 0 0 M
  else
    if ib (a1 - 1) 3 then
    fG_value_b19 q0 a1 0 (M (q0 + 2) (ix (a1 - 1))) M
    else none
def fD_tells (a1 : Int32) (a2 : Int32) (a3 : Int32) (a4 : Int32) (M : Mem) : Option (Int32 × Mem) :=
  if ib 0 6 then
  if ib a2 4 then
  if ib 1 6 then
  if ib a2 4 then
  if ib ((wr (wr M 48 (ix 0) a3) 48 (ix 1) ((wr M 48 (ix 0) a3) 50 (ix a2))) 50 (ix a2)) 8 then
  if ib 2 6 then
  if hOK (ix ((wr (wr (wr M 48 (ix 0) a3) 48 (ix 1) ((wr M 48 (ix 0) a3) 50 (ix a2))) 48 (ix 2) ((wr (wr M 48 (ix 0) a3) 48 (ix 1) ((wr M 48 (ix 0) a3) 50 (ix a2))) 56 (ix ((wr (wr M 48 (ix 0) a3) 48 (ix 1) ((wr M 48 (ix 0) a3) 50 (ix a2))) 50 (ix a2))))) 45 0)) then
  if ib a2 4 then
  if ib 3 6 then
  if ib 4 6 then
  (fD_othersWith a2 (wr (wr (wr (wr (wr M 48 (ix 0) a3) 48 (ix 1) ((wr M 48 (ix 0) a3) 50 (ix a2))) 48 (ix 2) ((wr (wr M 48 (ix 0) a3) 48 (ix 1) ((wr M 48 (ix 0) a3) 50 (ix a2))) 56 (ix ((wr (wr M 48 (ix 0) a3) 48 (ix 1) ((wr M 48 (ix 0) a3) 50 (ix a2))) 50 (ix a2))))) 48 (ix 3) ((wr (wr (wr M 48 (ix 0) a3) 48 (ix 1) ((wr M 48 (ix 0) a3) 50 (ix a2))) 48 (ix 2) ((wr (wr M 48 (ix 0) a3) 48 (ix 1) ((wr M 48 (ix 0) a3) 50 (ix a2))) 56 (ix ((wr (wr M 48 (ix 0) a3) 48 (ix 1) ((wr M 48 (ix 0) a3) 50 (ix a2))) 50 (ix a2))))) ((ix ((wr (wr (wr M 48 (ix 0) a3) 48 (ix 1) ((wr M 48 (ix 0) a3) 50 (ix a2))) 48 (ix 2) ((wr (wr M 48 (ix 0) a3) 48 (ix 1) ((wr M 48 (ix 0) a3) 50 (ix a2))) 56 (ix ((wr (wr M 48 (ix 0) a3) 48 (ix 1) ((wr M 48 (ix 0) a3) 50 (ix a2))) 50 (ix a2))))) 45 0)) + 5 + 2 * ix a2) 1)) 48 (ix 4) a4)).bind fun w3 =>
  if ib 5 6 then
  if hOK (ix ((wr w3.2 48 (ix 5) w3.1) 45 0)) then
  if ib ((wr w3.2 48 (ix 5) w3.1) (ix ((wr w3.2 48 (ix 5) w3.1) 45 0)) 3) 6 then
  (fG_value (59 + 3 * ix ((wr w3.2 48 (ix 5) w3.1) (ix ((wr w3.2 48 (ix 5) w3.1) 45 0)) 3)) a1 (wr w3.2 48 (ix 5) w3.1)).bind fun w6 =>
  if a1 = 2 then
    some ((if 0 < (if w6.1 < 99 then w6.1 else 99) then (if w6.1 < 99 then w6.1 else 99) else 0), w6.2)
  else
    some ((if 1 < (if w6.1 < 9 then w6.1 else 9) then (if w6.1 < 9 then w6.1 else 9) else 1), w6.2)
  else none
  else none
  else none
  else none
  else none
  else none
  else none
  else none
  else none
  else none
  else none
  else none
  else none
def fA_dares (q0 : Nat) (a1 : Int32) (M : Mem) : Option (Int32 × Mem) :=
  if (M q0 0) = 3 then
    if ((M q0 1) + 2) = 0 then none else
    if (a1 - a1 / ((M q0 1) + 2) * ((M q0 1) + 2)) = 0 then
      some (1, M)
    else
      some (0, M)
  else
    some (0, M)
def fN_within (a0 : Int32) (a1 : Int32) (M : Mem) : Option (Int32 × Mem) :=
  if a0 < 0 then
    some (0, M)
  else
    if a1 ≤ a0 then
      some (0, M)
    else
      some (1, M)
def fA_roomListed (q0 : Nat) (a1 : Int32) (M : Mem) : Option (Int32 × Mem) :=
  (fN_within a1 (M q0 3) M).bind fun w1 =>
  if w1.1 = 0 then
    some ((-1), w1.2)
  else
    if ib a1 5 then
    some ((w1.2 (q0 + 1) (ix a1)), w1.2)
    else none
def fA_takes_b40 (q0 : Nat) (a1 : Int32) (M : Mem) : Option (Int32 × Mem) :=
  some ((if 1 < (a1 - ((M q0 1) / 3)) then (a1 - ((M q0 1) / 3)) else 1), M)
def fA_takes (q0 : Nat) (a1 : Int32) (M : Mem) : Option (Int32 × Mem) :=
  if (M q0 0) = 1 then
    fA_takes_b40 q0 a1 M
  else
  if (M q0 0) = 2 then
    some ((a1 + 1), M)
  else
  if (M q0 0) = 3 then
    fA_takes_b40 q0 a1 M
  else
  if (M q0 0) = 4 then
    some ((2 * (a1 + 1)), M)
  else
  if (M q0 0) = 5 then
    some ((2 * a1), M)
  else
    some (a1, M)
def fA_works_b40 (a1 : Int32) (M : Mem) : Option (Int32 × Mem) :=
  some ((a1 + 1), M)
def fA_works_b59 (a1 : Int32) (M : Mem) : Option (Int32 × Mem) :=
  some (a1, M)
def fA_works (q0 : Nat) (a1 : Int32) (M : Mem) : Option (Int32 × Mem) :=
  if (M q0 0) = 1 then
    fA_works_b40 a1 M
  else
  if (M q0 0) = 2 then
    fA_works_b59 a1 M
  else
  if (M q0 0) = 3 then
    fA_works_b40 a1 M
  else
  if (M q0 0) = 4 then
    some ((a1 + (M q0 1)), M)
  else
  if (M q0 0) = 5 then
    some ((if 1 < (a1 / 2) then (a1 / 2) else 1), M)
  else
    fA_works_b59 a1 M
def fY_nextLaid (a1 : Int32) (a2 : Int32) (M : Mem) : Option (Int32 × Mem) :=
  (fN_within a1 8 M).bind fun w1 =>
  if w1.1 = 0 then
    some ((-1), w1.2)
  else
    (fN_within a2 8 w1.2).bind fun w2 =>
    if w2.1 = 0 then
      some ((-1), w2.2)
    else
      if ib ((a1 * 8) + a2) 64 then
      some ((w2.2 47 (ix ((a1 * 8) + a2))), w2.2)
      else none
def fD_turn_b238 (a1 : Int32) (M : Mem) : Option (Mem) :=
  if ib a1 4 then
  if ib a1 4 then
  some (wr M 55 (ix a1) ((M 55 (ix a1)) + 1))
  else none
  else none
def fD_turn_b207 (a1 : Int32) (a2 : Int32) (q4 : Nat) (a7 : Int32) (M : Mem) : Option (Mem) :=
  (fD_tells 0 a1 a2 a7 M).bind fun w9 =>
  (fA_takes q4 w9.1 w9.2).bind fun w10 =>
  if ib a1 4 then
  if ib a1 4 then
  some (wr (wr w10.2 52 (ix a1) w10.1) 51 (ix a1) a7)
  else none
  else none
def fD_turn (a1 : Int32) (a2 : Int32) (a3 : Int32) (M : Mem) : Option (Mem) :=
  if hOK (ix (M 45 0)) then
  if ib a1 4 then
  if ib a1 4 then
  if ib a1 4 then
  (fA_roomListed ((ix (M 45 0)) + 5 + 2 * ix a1) (M 53 (ix a1)) M).bind fun w3 =>
  if ib a1 4 then
  if (w3.2 52 (ix a1)) ≤ 0 then
    if (M 50 (ix a1)) = a3 then
      if ib a1 4 then
      if ib a1 4 then
      (fD_tells 2 a1 a2 0 (wr w3.2 54 (ix a1) ((w3.2 54 (ix a1)) + 1))).bind fun w4 =>
      some (wr w4.2 45 13 (((wr w3.2 54 (ix a1) ((w3.2 54 (ix a1)) + 1)) 45 13) + w4.1))
      else none
      else none
    else
      if (M 50 (ix a1)) = w3.1 then
        if ib (M 50 (ix a1)) 8 then
        (fD_tells 1 a1 a2 0 w3.2).bind fun w5 =>
        (fA_works ((ix (M 45 0)) + 5 + 2 * ix a1) w5.1 w5.2).bind fun w6 =>
        if ib (M 50 (ix a1)) 8 then
        if ib (M 50 (ix a1)) 8 then
        if ((wr w6.2 56 (ix (M 50 (ix a1))) (if 0 < ((w3.2 56 (ix (M 50 (ix a1)))) - w6.1) then ((w3.2 56 (ix (M 50 (ix a1)))) - w6.1) else 0)) 56 (ix (M 50 (ix a1)))) = 0 then
          if ib a1 4 then
          if ib a1 4 then
          some (wr (wr w6.2 56 (ix (M 50 (ix a1))) (if 0 < ((w3.2 56 (ix (M 50 (ix a1)))) - w6.1) then ((w3.2 56 (ix (M 50 (ix a1)))) - w6.1) else 0)) 53 (ix a1) (((wr w6.2 56 (ix (M 50 (ix a1))) (if 0 < ((w3.2 56 (ix (M 50 (ix a1)))) - w6.1) then ((w3.2 56 (ix (M 50 (ix a1)))) - w6.1) else 0)) 53 (ix a1)) + 1))
          else none
          else none
        else
          some (wr w6.2 56 (ix (M 50 (ix a1))) (if 0 < ((w3.2 56 (ix (M 50 (ix a1)))) - w6.1) then ((w3.2 56 (ix (M 50 (ix a1)))) - w6.1) else 0))
        else none
        else none
        else none
      else
        (fY_nextLaid (M 50 (ix a1)) w3.1 w3.2).bind fun w7 =>
        if w7.1 = (-1) then
          fD_turn_b238 a1 w7.2
        else
          if w7.1 = a3 then
            (fA_dares ((ix (M 45 0)) + 5 + 2 * ix a1) a2 w7.2).bind fun w8 =>
            if w8.1 = 0 then
              fD_turn_b238 a1 w8.2
            else
              fD_turn_b207 a1 a2 ((ix (M 45 0)) + 5 + 2 * ix a1) w7.1 w8.2
          else
            fD_turn_b207 a1 a2 ((ix (M 45 0)) + 5 + 2 * ix a1) w7.1 w7.2
  else
    if ib a1 4 then
    if ib a1 4 then
    if ib a1 4 then
    if ((wr w3.2 52 (ix a1) ((w3.2 52 (ix a1)) - 1)) 52 (ix a1)) = 0 then
      if ib a1 4 then
      if ib a1 4 then
      some (wr (wr w3.2 52 (ix a1) ((w3.2 52 (ix a1)) - 1)) 50 (ix a1) ((wr w3.2 52 (ix a1) ((w3.2 52 (ix a1)) - 1)) 51 (ix a1)))
      else none
      else none
    else
      some (wr w3.2 52 (ix a1) ((w3.2 52 (ix a1)) - 1))
    else none
    else none
    else none
  else none
  else none
  else none
  else none
  else none
def fH_masterIn_b40 (q0 : Nat) : Nat → Int32 → Int32 → Mem → Option (Int32 × Mem)
  | 0, _, _, _ => none
  | z + 1, a3, a4, M =>
    if (M q0 1) ≤ a4 then
      some ((-1), M)
    else
      if ib a4 8 then
      if (M (q0 + 2) (ix a4)) ≤ a3 then
        if ib a4 8 then
        fH_masterIn_b40 q0 z (a3 - (M (q0 + 2) (ix a4))) (a4 + 1) M
        else none
      else
        if ib a4 8 then
        some ((M (q0 + 1) (ix a4)), M)
        else none
      else none
def fH_masterIn_b4 (q0 : Nat) (a1 : Int32) : Nat → Int32 → Int32 → Mem → Option (Int32 × Mem)
  | 0, _, _, _ => none
  | z + 1, a2, a3, M =>
    if (M q0 1) ≤ a3 then
      if 0 < a2 then
        if a2 = 0 then none else
        fH_masterIn_b40 q0 1000 (a1 - a1 / a2 * a2) 0 M
      else
        some ((-1), M)
    else
      if ib a3 8 then
      fH_masterIn_b4 q0 a1 z (a2 + (M (q0 + 2) (ix a3))) (a3 + 1) M
      else none
def fH_masterIn (q0 : Nat) (a1 : Int32) (M : Mem) : Option (Int32 × Mem) :=
  fH_masterIn_b4 q0 a1 1000 0 0 M
def fD_pass_b11 (a1 : Int32) (a2 : Int32) : Nat → Int32 → Mem → Option (Mem)
  | 0, _, _ => none
  | z + 1, a3, M =>
    if hOK (ix (M 45 0)) then
    if (M (ix (M 45 0)) 2) ≤ a3 then
      if (M 45 14) = (-1) then
        (fD_isAllDone M).bind fun w4 =>
        if w4.1 = 0 then
          some w4.2
        else
          some (wr w4.2 45 14 a1)
      else
        some M
    else
      (fD_turn a3 a1 a2 M).bind fun M5 =>
      fD_pass_b11 a1 a2 z (a3 + 1) M5
    else none
def fD_pass (a1 : Int32) (M : Mem) : Option (Mem) :=
  if hOK (ix (M 45 0)) then
  (fH_masterIn (ix (M 45 0)) a1 M).bind fun w2 =>
  fD_pass_b11 a1 w2.1 1000 0 w2.2
  else none
def fY_far_b67 (a4 : Int32) (M : Mem) : Option (Int32 × Mem) :=
  some (a4, M)
def fY_far_b48 (a0 : Int32) (a3 : Int32) (a4 : Int32) (M : Mem) : Option (Int32 × Mem) :=
  if (a0 &&& 2) = 0 then
    fY_far_b67 a4 M
  else
    fY_far_b67 (if ((6 - a3) + 1) < a4 then ((6 - a3) + 1) else a4) M
def fY_far (a0 : Int32) (a1 : Int32) (a2 : Int32) (M : Mem) : Option (Int32 × Mem) :=
  if (a1 / 4) = (a2 / 4) then
    some ((if 0 ≤ ((a1 - a1 / 4 * 4) - (a2 - a2 / 4 * 4)) then ((a1 - a1 / 4 * 4) - (a2 - a2 / 4 * 4)) else 0 - ((a1 - a1 / 4 * 4) - (a2 - a2 / 4 * 4))), M)
  else
    if (a0 &&& 1) = 0 then
      fY_far_b48 a0 ((a1 - a1 / 4 * 4) + (a2 - a2 / 4 * 4)) 8 M
    else
      fY_far_b48 a0 ((a1 - a1 / 4 * 4) + (a2 - a2 / 4 * 4)) (if (((a1 - a1 / 4 * 4) + (a2 - a2 / 4 * 4)) + 1) < 8 then (((a1 - a1 / 4 * 4) + (a2 - a2 / 4 * 4)) + 1) else 8) M
def fY_nextRoom_b62 (a3 : Int32) (M : Mem) : Option (Int32 × Mem) :=
  some (a3, M)
def fY_nextRoom_b56 (k9 : Int32 → Int32 → Int32 → Mem → Option (Int32 × Mem)) (a0 : Int32) (a1 : Int32) (a2 : Int32) (a3 : Int32) (a4 : Int32) (a5 : Int32) (M : Mem) : Option (Int32 × Mem) :=
  k9 a3 a4 (a5 + 1) M
def fY_nextRoom_b9 (a0 : Int32) (a1 : Int32) (a2 : Int32) : Nat → Int32 → Int32 → Int32 → Mem → Option (Int32 × Mem)
  | 0, _, _, _, _ => none
  | z + 1, a3, a4, a5, M =>
    if 8 ≤ a5 then
      fY_nextRoom_b62 a3 M
    else
      if a1 = a2 then
        fY_nextRoom_b62 a3 M
      else
        (fY_far a0 a1 a5 M).bind fun w1 =>
        if w1.1 = 1 then
          (fY_far a0 a5 a2 w1.2).bind fun w2 =>
          if a4 ≤ w2.1 then
            fY_nextRoom_b56 (fY_nextRoom_b9 a0 a1 a2 z) a0 a1 a2 a3 a4 a5 w2.2
          else
            (fY_far a0 a5 a2 w2.2).bind fun w3 =>
            fY_nextRoom_b56 (fY_nextRoom_b9 a0 a1 a2 z) a0 a1 a2 a5 w3.1 a5 w3.2
        else
          fY_nextRoom_b56 (fY_nextRoom_b9 a0 a1 a2 z) a0 a1 a2 a3 a4 a5 w1.2
def fY_nextRoom (a0 : Int32) (a1 : Int32) (a2 : Int32) (M : Mem) : Option (Int32 × Mem) :=
  fY_nextRoom_b9 a0 a1 a2 1000 (-1) 8 0 M
def fY_lay_b11 (a1 : Int32) : Nat → Int32 → Mem → Option (Mem)
  | 0, _, _ => none
  | z + 1, a2, M =>
    if 64 ≤ a2 then
      some (wr M 46 1 a1)
    else
      (fY_nextRoom a1 (a2 / 8) (a2 - a2 / 8 * 8) M).bind fun w1 =>
      if ib a2 64 then
      fY_lay_b11 a1 z (a2 + 1) (wr w1.2 47 (ix a2) w1.1)
      else none
def fY_lay (a1 : Int32) (M : Mem) : Option (Mem) :=
  if (M 46 1) = a1 then
    some M
  else
    fY_lay_b11 a1 1000 0 M
def fD_start_b116 (k54 : Int32 → Mem → Option (Mem)) (a2 : Int32) (q3 : Nat) : Nat → Int32 → Mem → Option (Mem)
  | 0, _, _ => none
  | z + 1, a4, M =>
    if (M q3 3) ≤ a4 then
      k54 (a2 + 1) M
    else
      if ib a4 5 then
      fD_start_b116 k54 a2 q3 z (a4 + 1) (wr M 45 12 ((M 45 12) ||| (1 <<< ((M (q3 + 1) (ix a4)) &&& 31))))
      else none
def fD_start_b54 : Nat → Int32 → Mem → Option (Mem)
  | 0, _, _ => none
  | z + 1, a2, M =>
    if hOK (ix (M 45 0)) then
    if (M (ix (M 45 0)) 2) ≤ a2 then
      some M
    else
      if hOK (ix (M 45 0)) then
      if ib a2 4 then
      if ib a2 4 then
      if ib a2 4 then
      if ib a2 4 then
      if ib a2 4 then
      if ib a2 4 then
      fD_start_b116 (fD_start_b54 z) a2 ((ix (M 45 0)) + 5 + 2 * ix a2) 1000 0 (wr (wr (wr (wr (wr M 50 (ix a2) (M ((ix (M 45 0)) + 5 + 2 * ix a2) 2)) 52 (ix a2) 0) 53 (ix a2) 0) 54 (ix a2) 0) 55 (ix a2) 0)
      else none
      else none
      else none
      else none
      else none
      else none
      else none
    else none
def fD_start (q1 : Nat) (M : Mem) : Option (Mem) :=
  if hOK (ix ((wr M 45 0 (nI q1)) 45 0)) then
  (fY_lay ((wr M 45 0 (nI q1)) (ix ((wr M 45 0 (nI q1)) 45 0)) 0) (wr M 45 0 (nI q1))).bind fun M2 =>
  if hOK (ix (M2 45 0)) then
  if 0 ≤ (0 : Int32).toInt ∧ 0 ≤ (0 : Int32).toInt ∧ 0 ≤ (8 : Int32).toInt ∧ (0 : Int32).toInt + (8 : Int32).toInt ≤ 8 ∧ (0 : Int32).toInt + (8 : Int32).toInt ≤ 8 then
  fD_start_b54 1000 0 (wr (wr (wr (wrR M2 56 (va_cpy (M2 ((ix (M2 45 0)) + 3)) (M2 56) (ix 0) (ix 0) (ix 8))) 45 12 0) 45 13 0) 45 14 (-1))
  else none
  else none
  else none
def fD_run_b7 (a2 : Int32) : Nat → Int32 → Mem → Option (Mem)
  | 0, _, _ => none
  | z + 1, a3, M =>
    if a2 ≤ a3 then
      some M
    else
      (fD_pass a3 M).bind fun M2 =>
      fD_run_b7 a2 z (a3 + 1) M2
def fD_run (q1 : Nat) (a2 : Int32) (M : Mem) : Option (Mem) :=
  (fD_start q1 M).bind fun M1 =>
  fD_run_b7 a2 1000 0 M1
def fN_sum_b4 (q0 : Nat) : Nat → Int32 → Int32 → Mem → Option (Int32 × Mem)
  | 0, _, _, _ => none
  | z + 1, a1, a2, M =>
    if (Int32.ofNat 8) ≤ a2 then
      some (a1, M)
    else
      if ib a2 8 then
      fN_sum_b4 q0 z (a1 + (M q0 (ix a2))) (a2 + 1) M
      else none
def fN_sum (q0 : Nat) (M : Mem) : Option (Int32 × Mem) :=
  fN_sum_b4 q0 1000 0 0 M
def fD_workLeft (M : Mem) : Option (Int32 × Mem) :=
  (fN_sum 56 M).bind fun w1 =>
  some (w1.1, w1.2)
def fD_dear (M : Mem) : Option (Int32 × Mem) :=
  (fN_sum 56 M).bind fun w1 =>
  some ((w1.1 + (w1.2 45 13)), w1.2)
def fD_isAnySeen_b2 : Nat → Int32 → Mem → Option (Int32 × Mem)
  | 0, _, _ => none
  | z + 1, a1, M =>
    if hOK (ix (M 45 0)) then
    if (M (ix (M 45 0)) 2) ≤ a1 then
      some (0, M)
    else
      if ib a1 4 then
      if (M 54 (ix a1)) ≤ 0 then
        fD_isAnySeen_b2 z (a1 + 1) M
      else
        some (1, M)
      else none
    else none
def fD_isAnySeen (M : Mem) : Option (Int32 × Mem) :=
  fD_isAnySeen_b2 1000 0 M
def fD_ofMaid (a1 : Int32) (a2 : Int32) (M : Mem) : Option (Int32 × Mem) :=
  if hOK (ix (M 45 0)) then
  (fN_within a1 (M (ix (M 45 0)) 2) M).bind fun w2 =>
  if w2.1 = 0 then
    some ((-2), w2.2)
  else
    if a2 = 1 then
      if ib a1 4 then
      some ((w2.2 50 (ix a1)), w2.2)
      else none
    else
    if a2 = 2 then
      if ib a1 4 then
      some ((w2.2 54 (ix a1)), w2.2)
      else none
    else
    if a2 = 3 then
      if ib a1 4 then
      some ((w2.2 55 (ix a1)), w2.2)
      else none
    else
      if hOK (ix (w2.2 45 0)) then
      if ib a1 4 then
      if ib a1 4 then
      (fA_roomListed ((ix (w2.2 45 0)) + 5 + 2 * ix a1) (w2.2 53 (ix a1)) w2.2).bind fun w8 =>
      some (w8.1, w8.2)
      else none
      else none
      else none
  else none
def fA_become (q0 : Nat) (q1 : Nat) (M : Mem) : Option (Mem) :=
  if 0 ≤ (0 : Int32).toInt ∧ 0 ≤ (0 : Int32).toInt ∧ 0 ≤ (5 : Int32).toInt ∧ (0 : Int32).toInt + (5 : Int32).toInt ≤ 5 ∧ (0 : Int32).toInt + (5 : Int32).toInt ≤ 5 then
  some (wrR (wr (wr (wr (wr M q0 0 (M q1 0)) q0 1 ((wr M q0 0 (M q1 0)) q1 1)) q0 2 ((wr (wr M q0 0 (M q1 0)) q0 1 ((wr M q0 0 (M q1 0)) q1 1)) q1 2)) q0 3 ((wr (wr (wr M q0 0 (M q1 0)) q0 1 ((wr M q0 0 (M q1 0)) q1 1)) q0 2 ((wr (wr M q0 0 (M q1 0)) q0 1 ((wr M q0 0 (M q1 0)) q1 1)) q1 2)) q1 3)) (q0 + 1) (va_cpy ((wr (wr (wr (wr M q0 0 (M q1 0)) q0 1 ((wr M q0 0 (M q1 0)) q1 1)) q0 2 ((wr (wr M q0 0 (M q1 0)) q0 1 ((wr M q0 0 (M q1 0)) q1 1)) q1 2)) q0 3 ((wr (wr (wr M q0 0 (M q1 0)) q0 1 ((wr M q0 0 (M q1 0)) q1 1)) q0 2 ((wr (wr M q0 0 (M q1 0)) q0 1 ((wr M q0 0 (M q1 0)) q1 1)) q1 2)) q1 3)) (q1 + 1)) ((wr (wr (wr (wr M q0 0 (M q1 0)) q0 1 ((wr M q0 0 (M q1 0)) q1 1)) q0 2 ((wr (wr M q0 0 (M q1 0)) q0 1 ((wr M q0 0 (M q1 0)) q1 1)) q1 2)) q0 3 ((wr (wr (wr M q0 0 (M q1 0)) q0 1 ((wr M q0 0 (M q1 0)) q1 1)) q0 2 ((wr (wr M q0 0 (M q1 0)) q0 1 ((wr M q0 0 (M q1 0)) q1 1)) q1 2)) q1 3)) (q0 + 1)) (ix 0) (ix 0) (ix 5)))
  else none
def fH_become_b79 (q0 : Nat) (q1 : Nat) : Nat → Int32 → Mem → Option (Mem)
  | 0, _, _ => none
  | z + 1, a2, M =>
    if 4 ≤ a2 then
      some M
    else
      if ib a2 4 then
      if ib a2 4 then
      (fA_become (q0 + 5 + 2 * ix a2) (q1 + 5 + 2 * ix a2) M).bind fun M3 =>
      fH_become_b79 q0 q1 z (a2 + 1) M3
      else none
      else none
def fH_become (q0 : Nat) (q1 : Nat) (M : Mem) : Option (Mem) :=
  if 0 ≤ (0 : Int32).toInt ∧ 0 ≤ (0 : Int32).toInt ∧ 0 ≤ (8 : Int32).toInt ∧ (0 : Int32).toInt + (8 : Int32).toInt ≤ 8 ∧ (0 : Int32).toInt + (8 : Int32).toInt ≤ 8 then
  if 0 ≤ (0 : Int32).toInt ∧ 0 ≤ (0 : Int32).toInt ∧ 0 ≤ (8 : Int32).toInt ∧ (0 : Int32).toInt + (8 : Int32).toInt ≤ 8 ∧ (0 : Int32).toInt + (8 : Int32).toInt ≤ 8 then
  if 0 ≤ (0 : Int32).toInt ∧ 0 ≤ (0 : Int32).toInt ∧ 0 ≤ (8 : Int32).toInt ∧ (0 : Int32).toInt + (8 : Int32).toInt ≤ 8 ∧ (0 : Int32).toInt + (8 : Int32).toInt ≤ 8 then
  fH_become_b79 q0 q1 1000 0 (wrR (wrR (wrR (wr (wr (wr (wr M q0 0 (M q1 0)) q0 1 ((wr M q0 0 (M q1 0)) q1 1)) q0 2 ((wr (wr M q0 0 (M q1 0)) q0 1 ((wr M q0 0 (M q1 0)) q1 1)) q1 2)) q0 3 ((wr (wr (wr M q0 0 (M q1 0)) q0 1 ((wr M q0 0 (M q1 0)) q1 1)) q0 2 ((wr (wr M q0 0 (M q1 0)) q0 1 ((wr M q0 0 (M q1 0)) q1 1)) q1 2)) q1 3)) (q0 + 1) (va_cpy ((wr (wr (wr (wr M q0 0 (M q1 0)) q0 1 ((wr M q0 0 (M q1 0)) q1 1)) q0 2 ((wr (wr M q0 0 (M q1 0)) q0 1 ((wr M q0 0 (M q1 0)) q1 1)) q1 2)) q0 3 ((wr (wr (wr M q0 0 (M q1 0)) q0 1 ((wr M q0 0 (M q1 0)) q1 1)) q0 2 ((wr (wr M q0 0 (M q1 0)) q0 1 ((wr M q0 0 (M q1 0)) q1 1)) q1 2)) q1 3)) (q1 + 1)) ((wr (wr (wr (wr M q0 0 (M q1 0)) q0 1 ((wr M q0 0 (M q1 0)) q1 1)) q0 2 ((wr (wr M q0 0 (M q1 0)) q0 1 ((wr M q0 0 (M q1 0)) q1 1)) q1 2)) q0 3 ((wr (wr (wr M q0 0 (M q1 0)) q0 1 ((wr M q0 0 (M q1 0)) q1 1)) q0 2 ((wr (wr M q0 0 (M q1 0)) q0 1 ((wr M q0 0 (M q1 0)) q1 1)) q1 2)) q1 3)) (q0 + 1)) (ix 0) (ix 0) (ix 8))) (q0 + 2) (va_cpy ((wrR (wr (wr (wr (wr M q0 0 (M q1 0)) q0 1 ((wr M q0 0 (M q1 0)) q1 1)) q0 2 ((wr (wr M q0 0 (M q1 0)) q0 1 ((wr M q0 0 (M q1 0)) q1 1)) q1 2)) q0 3 ((wr (wr (wr M q0 0 (M q1 0)) q0 1 ((wr M q0 0 (M q1 0)) q1 1)) q0 2 ((wr (wr M q0 0 (M q1 0)) q0 1 ((wr M q0 0 (M q1 0)) q1 1)) q1 2)) q1 3)) (q0 + 1) (va_cpy ((wr (wr (wr (wr M q0 0 (M q1 0)) q0 1 ((wr M q0 0 (M q1 0)) q1 1)) q0 2 ((wr (wr M q0 0 (M q1 0)) q0 1 ((wr M q0 0 (M q1 0)) q1 1)) q1 2)) q0 3 ((wr (wr (wr M q0 0 (M q1 0)) q0 1 ((wr M q0 0 (M q1 0)) q1 1)) q0 2 ((wr (wr M q0 0 (M q1 0)) q0 1 ((wr M q0 0 (M q1 0)) q1 1)) q1 2)) q1 3)) (q1 + 1)) ((wr (wr (wr (wr M q0 0 (M q1 0)) q0 1 ((wr M q0 0 (M q1 0)) q1 1)) q0 2 ((wr (wr M q0 0 (M q1 0)) q0 1 ((wr M q0 0 (M q1 0)) q1 1)) q1 2)) q0 3 ((wr (wr (wr M q0 0 (M q1 0)) q0 1 ((wr M q0 0 (M q1 0)) q1 1)) q0 2 ((wr (wr M q0 0 (M q1 0)) q0 1 ((wr M q0 0 (M q1 0)) q1 1)) q1 2)) q1 3)) (q0 + 1)) (ix 0) (ix 0) (ix 8))) (q1 + 2)) ((wrR (wr (wr (wr (wr M q0 0 (M q1 0)) q0 1 ((wr M q0 0 (M q1 0)) q1 1)) q0 2 ((wr (wr M q0 0 (M q1 0)) q0 1 ((wr M q0 0 (M q1 0)) q1 1)) q1 2)) q0 3 ((wr (wr (wr M q0 0 (M q1 0)) q0 1 ((wr M q0 0 (M q1 0)) q1 1)) q0 2 ((wr (wr M q0 0 (M q1 0)) q0 1 ((wr M q0 0 (M q1 0)) q1 1)) q1 2)) q1 3)) (q0 + 1) (va_cpy ((wr (wr (wr (wr M q0 0 (M q1 0)) q0 1 ((wr M q0 0 (M q1 0)) q1 1)) q0 2 ((wr (wr M q0 0 (M q1 0)) q0 1 ((wr M q0 0 (M q1 0)) q1 1)) q1 2)) q0 3 ((wr (wr (wr M q0 0 (M q1 0)) q0 1 ((wr M q0 0 (M q1 0)) q1 1)) q0 2 ((wr (wr M q0 0 (M q1 0)) q0 1 ((wr M q0 0 (M q1 0)) q1 1)) q1 2)) q1 3)) (q1 + 1)) ((wr (wr (wr (wr M q0 0 (M q1 0)) q0 1 ((wr M q0 0 (M q1 0)) q1 1)) q0 2 ((wr (wr M q0 0 (M q1 0)) q0 1 ((wr M q0 0 (M q1 0)) q1 1)) q1 2)) q0 3 ((wr (wr (wr M q0 0 (M q1 0)) q0 1 ((wr M q0 0 (M q1 0)) q1 1)) q0 2 ((wr (wr M q0 0 (M q1 0)) q0 1 ((wr M q0 0 (M q1 0)) q1 1)) q1 2)) q1 3)) (q0 + 1)) (ix 0) (ix 0) (ix 8))) (q0 + 2)) (ix 0) (ix 0) (ix 8))) (q0 + 3) (va_cpy ((wrR (wrR (wr (wr (wr (wr M q0 0 (M q1 0)) q0 1 ((wr M q0 0 (M q1 0)) q1 1)) q0 2 ((wr (wr M q0 0 (M q1 0)) q0 1 ((wr M q0 0 (M q1 0)) q1 1)) q1 2)) q0 3 ((wr (wr (wr M q0 0 (M q1 0)) q0 1 ((wr M q0 0 (M q1 0)) q1 1)) q0 2 ((wr (wr M q0 0 (M q1 0)) q0 1 ((wr M q0 0 (M q1 0)) q1 1)) q1 2)) q1 3)) (q0 + 1) (va_cpy ((wr (wr (wr (wr M q0 0 (M q1 0)) q0 1 ((wr M q0 0 (M q1 0)) q1 1)) q0 2 ((wr (wr M q0 0 (M q1 0)) q0 1 ((wr M q0 0 (M q1 0)) q1 1)) q1 2)) q0 3 ((wr (wr (wr M q0 0 (M q1 0)) q0 1 ((wr M q0 0 (M q1 0)) q1 1)) q0 2 ((wr (wr M q0 0 (M q1 0)) q0 1 ((wr M q0 0 (M q1 0)) q1 1)) q1 2)) q1 3)) (q1 + 1)) ((wr (wr (wr (wr M q0 0 (M q1 0)) q0 1 ((wr M q0 0 (M q1 0)) q1 1)) q0 2 ((wr (wr M q0 0 (M q1 0)) q0 1 ((wr M q0 0 (M q1 0)) q1 1)) q1 2)) q0 3 ((wr (wr (wr M q0 0 (M q1 0)) q0 1 ((wr M q0 0 (M q1 0)) q1 1)) q0 2 ((wr (wr M q0 0 (M q1 0)) q0 1 ((wr M q0 0 (M q1 0)) q1 1)) q1 2)) q1 3)) (q0 + 1)) (ix 0) (ix 0) (ix 8))) (q0 + 2) (va_cpy ((wrR (wr (wr (wr (wr M q0 0 (M q1 0)) q0 1 ((wr M q0 0 (M q1 0)) q1 1)) q0 2 ((wr (wr M q0 0 (M q1 0)) q0 1 ((wr M q0 0 (M q1 0)) q1 1)) q1 2)) q0 3 ((wr (wr (wr M q0 0 (M q1 0)) q0 1 ((wr M q0 0 (M q1 0)) q1 1)) q0 2 ((wr (wr M q0 0 (M q1 0)) q0 1 ((wr M q0 0 (M q1 0)) q1 1)) q1 2)) q1 3)) (q0 + 1) (va_cpy ((wr (wr (wr (wr M q0 0 (M q1 0)) q0 1 ((wr M q0 0 (M q1 0)) q1 1)) q0 2 ((wr (wr M q0 0 (M q1 0)) q0 1 ((wr M q0 0 (M q1 0)) q1 1)) q1 2)) q0 3 ((wr (wr (wr M q0 0 (M q1 0)) q0 1 ((wr M q0 0 (M q1 0)) q1 1)) q0 2 ((wr (wr M q0 0 (M q1 0)) q0 1 ((wr M q0 0 (M q1 0)) q1 1)) q1 2)) q1 3)) (q1 + 1)) ((wr (wr (wr (wr M q0 0 (M q1 0)) q0 1 ((wr M q0 0 (M q1 0)) q1 1)) q0 2 ((wr (wr M q0 0 (M q1 0)) q0 1 ((wr M q0 0 (M q1 0)) q1 1)) q1 2)) q0 3 ((wr (wr (wr M q0 0 (M q1 0)) q0 1 ((wr M q0 0 (M q1 0)) q1 1)) q0 2 ((wr (wr M q0 0 (M q1 0)) q0 1 ((wr M q0 0 (M q1 0)) q1 1)) q1 2)) q1 3)) (q0 + 1)) (ix 0) (ix 0) (ix 8))) (q1 + 2)) ((wrR (wr (wr (wr (wr M q0 0 (M q1 0)) q0 1 ((wr M q0 0 (M q1 0)) q1 1)) q0 2 ((wr (wr M q0 0 (M q1 0)) q0 1 ((wr M q0 0 (M q1 0)) q1 1)) q1 2)) q0 3 ((wr (wr (wr M q0 0 (M q1 0)) q0 1 ((wr M q0 0 (M q1 0)) q1 1)) q0 2 ((wr (wr M q0 0 (M q1 0)) q0 1 ((wr M q0 0 (M q1 0)) q1 1)) q1 2)) q1 3)) (q0 + 1) (va_cpy ((wr (wr (wr (wr M q0 0 (M q1 0)) q0 1 ((wr M q0 0 (M q1 0)) q1 1)) q0 2 ((wr (wr M q0 0 (M q1 0)) q0 1 ((wr M q0 0 (M q1 0)) q1 1)) q1 2)) q0 3 ((wr (wr (wr M q0 0 (M q1 0)) q0 1 ((wr M q0 0 (M q1 0)) q1 1)) q0 2 ((wr (wr M q0 0 (M q1 0)) q0 1 ((wr M q0 0 (M q1 0)) q1 1)) q1 2)) q1 3)) (q1 + 1)) ((wr (wr (wr (wr M q0 0 (M q1 0)) q0 1 ((wr M q0 0 (M q1 0)) q1 1)) q0 2 ((wr (wr M q0 0 (M q1 0)) q0 1 ((wr M q0 0 (M q1 0)) q1 1)) q1 2)) q0 3 ((wr (wr (wr M q0 0 (M q1 0)) q0 1 ((wr M q0 0 (M q1 0)) q1 1)) q0 2 ((wr (wr M q0 0 (M q1 0)) q0 1 ((wr M q0 0 (M q1 0)) q1 1)) q1 2)) q1 3)) (q0 + 1)) (ix 0) (ix 0) (ix 8))) (q0 + 2)) (ix 0) (ix 0) (ix 8))) (q1 + 3)) ((wrR (wrR (wr (wr (wr (wr M q0 0 (M q1 0)) q0 1 ((wr M q0 0 (M q1 0)) q1 1)) q0 2 ((wr (wr M q0 0 (M q1 0)) q0 1 ((wr M q0 0 (M q1 0)) q1 1)) q1 2)) q0 3 ((wr (wr (wr M q0 0 (M q1 0)) q0 1 ((wr M q0 0 (M q1 0)) q1 1)) q0 2 ((wr (wr M q0 0 (M q1 0)) q0 1 ((wr M q0 0 (M q1 0)) q1 1)) q1 2)) q1 3)) (q0 + 1) (va_cpy ((wr (wr (wr (wr M q0 0 (M q1 0)) q0 1 ((wr M q0 0 (M q1 0)) q1 1)) q0 2 ((wr (wr M q0 0 (M q1 0)) q0 1 ((wr M q0 0 (M q1 0)) q1 1)) q1 2)) q0 3 ((wr (wr (wr M q0 0 (M q1 0)) q0 1 ((wr M q0 0 (M q1 0)) q1 1)) q0 2 ((wr (wr M q0 0 (M q1 0)) q0 1 ((wr M q0 0 (M q1 0)) q1 1)) q1 2)) q1 3)) (q1 + 1)) ((wr (wr (wr (wr M q0 0 (M q1 0)) q0 1 ((wr M q0 0 (M q1 0)) q1 1)) q0 2 ((wr (wr M q0 0 (M q1 0)) q0 1 ((wr M q0 0 (M q1 0)) q1 1)) q1 2)) q0 3 ((wr (wr (wr M q0 0 (M q1 0)) q0 1 ((wr M q0 0 (M q1 0)) q1 1)) q0 2 ((wr (wr M q0 0 (M q1 0)) q0 1 ((wr M q0 0 (M q1 0)) q1 1)) q1 2)) q1 3)) (q0 + 1)) (ix 0) (ix 0) (ix 8))) (q0 + 2) (va_cpy ((wrR (wr (wr (wr (wr M q0 0 (M q1 0)) q0 1 ((wr M q0 0 (M q1 0)) q1 1)) q0 2 ((wr (wr M q0 0 (M q1 0)) q0 1 ((wr M q0 0 (M q1 0)) q1 1)) q1 2)) q0 3 ((wr (wr (wr M q0 0 (M q1 0)) q0 1 ((wr M q0 0 (M q1 0)) q1 1)) q0 2 ((wr (wr M q0 0 (M q1 0)) q0 1 ((wr M q0 0 (M q1 0)) q1 1)) q1 2)) q1 3)) (q0 + 1) (va_cpy ((wr (wr (wr (wr M q0 0 (M q1 0)) q0 1 ((wr M q0 0 (M q1 0)) q1 1)) q0 2 ((wr (wr M q0 0 (M q1 0)) q0 1 ((wr M q0 0 (M q1 0)) q1 1)) q1 2)) q0 3 ((wr (wr (wr M q0 0 (M q1 0)) q0 1 ((wr M q0 0 (M q1 0)) q1 1)) q0 2 ((wr (wr M q0 0 (M q1 0)) q0 1 ((wr M q0 0 (M q1 0)) q1 1)) q1 2)) q1 3)) (q1 + 1)) ((wr (wr (wr (wr M q0 0 (M q1 0)) q0 1 ((wr M q0 0 (M q1 0)) q1 1)) q0 2 ((wr (wr M q0 0 (M q1 0)) q0 1 ((wr M q0 0 (M q1 0)) q1 1)) q1 2)) q0 3 ((wr (wr (wr M q0 0 (M q1 0)) q0 1 ((wr M q0 0 (M q1 0)) q1 1)) q0 2 ((wr (wr M q0 0 (M q1 0)) q0 1 ((wr M q0 0 (M q1 0)) q1 1)) q1 2)) q1 3)) (q0 + 1)) (ix 0) (ix 0) (ix 8))) (q1 + 2)) ((wrR (wr (wr (wr (wr M q0 0 (M q1 0)) q0 1 ((wr M q0 0 (M q1 0)) q1 1)) q0 2 ((wr (wr M q0 0 (M q1 0)) q0 1 ((wr M q0 0 (M q1 0)) q1 1)) q1 2)) q0 3 ((wr (wr (wr M q0 0 (M q1 0)) q0 1 ((wr M q0 0 (M q1 0)) q1 1)) q0 2 ((wr (wr M q0 0 (M q1 0)) q0 1 ((wr M q0 0 (M q1 0)) q1 1)) q1 2)) q1 3)) (q0 + 1) (va_cpy ((wr (wr (wr (wr M q0 0 (M q1 0)) q0 1 ((wr M q0 0 (M q1 0)) q1 1)) q0 2 ((wr (wr M q0 0 (M q1 0)) q0 1 ((wr M q0 0 (M q1 0)) q1 1)) q1 2)) q0 3 ((wr (wr (wr M q0 0 (M q1 0)) q0 1 ((wr M q0 0 (M q1 0)) q1 1)) q0 2 ((wr (wr M q0 0 (M q1 0)) q0 1 ((wr M q0 0 (M q1 0)) q1 1)) q1 2)) q1 3)) (q1 + 1)) ((wr (wr (wr (wr M q0 0 (M q1 0)) q0 1 ((wr M q0 0 (M q1 0)) q1 1)) q0 2 ((wr (wr M q0 0 (M q1 0)) q0 1 ((wr M q0 0 (M q1 0)) q1 1)) q1 2)) q0 3 ((wr (wr (wr M q0 0 (M q1 0)) q0 1 ((wr M q0 0 (M q1 0)) q1 1)) q0 2 ((wr (wr M q0 0 (M q1 0)) q0 1 ((wr M q0 0 (M q1 0)) q1 1)) q1 2)) q1 3)) (q0 + 1)) (ix 0) (ix 0) (ix 8))) (q0 + 2)) (ix 0) (ix 0) (ix 8))) (q0 + 3)) (ix 0) (ix 0) (ix 8)))
  else none
  else none
  else none
def fH_put_b110 (q0 : Nat) (a1 : Int32) (a2 : Int32) (a3 : Int32) (M : Mem) : Option (Mem) :=
  if a1 = 5 then
    (fN_within a2 4 M).bind fun w5 =>
    if w5.1 = 0 then
      some w5.2
    else
      if ib a2 4 then
      some (wr w5.2 (q0 + 5 + 2 * ix a2) 2 a3)
      else none
  else
    some M
def fH_put_b84 (q0 : Nat) (a1 : Int32) (a2 : Int32) (a3 : Int32) (M : Mem) : Option (Mem) :=
  if a1 = 4 then
    (fN_within a2 4 M).bind fun w4 =>
    if w4.1 = 0 then
      fH_put_b110 q0 a1 a2 a3 w4.2
    else
      if ib a2 4 then
      some (wr w4.2 (q0 + 5 + 2 * ix a2) 1 a3)
      else none
  else
    fH_put_b110 q0 a1 a2 a3 M
def fH_put_b60 (q0 : Nat) (a1 : Int32) (a2 : Int32) (a3 : Int32) (M : Mem) : Option (Mem) :=
  if a1 = 3 then
    (fN_within a2 8 M).bind fun w3 =>
    if w3.1 = 0 then
      fH_put_b84 q0 a1 a2 a3 w3.2
    else
      if ib a2 8 then
      some (wr w3.2 (q0 + 2) (ix a2) a3)
      else none
  else
    fH_put_b84 q0 a1 a2 a3 M
def fH_put_b36 (q0 : Nat) (a1 : Int32) (a2 : Int32) (a3 : Int32) (M : Mem) : Option (Mem) :=
  if a1 = 2 then
    (fN_within a2 8 M).bind fun w2 =>
    if w2.1 = 0 then
      fH_put_b60 q0 a1 a2 a3 w2.2
    else
      if ib a2 8 then
      some (wr w2.2 (q0 + 1) (ix a2) a3)
      else none
  else
    fH_put_b60 q0 a1 a2 a3 M
def fH_put (q0 : Nat) (a1 : Int32) (a2 : Int32) (a3 : Int32) (M : Mem) : Option (Mem) :=
  if a1 = 0 then
    some (wr M q0 0 a3)
  else
    if a1 = 1 then
      (fN_within a2 8 M).bind fun w1 =>
      if w1.1 = 0 then
        fH_put_b36 q0 a1 a2 a3 w1.2
      else
        if ib a2 8 then
        some (wr w1.2 (q0 + 3) (ix a2) a3)
        else none
    else
      fH_put_b36 q0 a1 a2 a3 M
def fH_leaveOut_b2 (q0 : Nat) : Nat → Int32 → Mem → Option (Mem)
  | 0, _, _ => none
  | z + 1, a2, M =>
    if ((M q0 2) - 1) ≤ a2 then
      some (wr M q0 2 ((M q0 2) - 1))
    else
      if ib a2 4 then
      if ib (a2 + 1) 4 then
      (fA_become (q0 + 5 + 2 * ix a2) (q0 + 5 + 2 * ix (a2 + 1)) M).bind fun M3 =>
      fH_leaveOut_b2 q0 z (a2 + 1) M3
      else none
      else none
def fH_leaveOut (q0 : Nat) (a1 : Int32) (M : Mem) : Option (Mem) :=
  fH_leaveOut_b2 q0 1000 a1 M
def fH_draw_b4 (q0 : Nat) : Nat → Int32 → Int32 → Mem → Option (Mem)
  | 0, _, _, _ => none
  | z + 1, a2, a3, M =>
    if (M q0 1) ≤ a3 then
      some M
    else
      if ib a3 8 then
      fH_draw_b4 q0 z ((a2 * 1103515245) + 12345) (a3 + 1) (wr M (q0 + 2) (ix a3) ((((((a2 * 1103515245) + 12345).toUInt32 >>> ((9 : Int32).toUInt32 &&& Int32.toUInt32 31)).toInt32) - ((((a2 * 1103515245) + 12345).toUInt32 >>> ((9 : Int32).toUInt32 &&& Int32.toUInt32 31)).toInt32) / 50 * 50) + 1))
      else none
def fH_draw (q0 : Nat) (a1 : Int32) (M : Mem) : Option (Mem) :=
  fH_draw_b4 q0 1000 a1 0 M
def fA_arrive (q0 : Nat) (a1 : Int32) (a2 : Int32) (a3 : Int32) (M : Mem) : Option (Mem) :=
  some (wr (wr (wr (wr M q0 0 a1) q0 1 a2) q0 2 a3) q0 3 0)
def fA_isOfKind_b7 (a1 : Int32) : Nat → Int32 → Int32 → Mem → Option (Int32 × Mem)
  | 0, _, _, _ => none
  | z + 1, a2, a3, M =>
    if 6 ≤ a3 then
      some (0, M)
    else
      (fN_within a2 6 M).bind fun w1 =>
      if w1.1 = 0 then
        some (0, w1.2)
      else
        if a2 = a1 then
          some (1, w1.2)
        else
          if ib a2 6 then
          fA_isOfKind_b7 a1 z (([-1, 0, 0, 1, 2, 0] : List Int32).getD (ix a2) 0) (a3 + 1) w1.2
          else none
def fA_isOfKind (q0 : Nat) (a1 : Int32) (M : Mem) : Option (Int32 × Mem) :=
  fA_isOfKind_b7 a1 1000 (M q0 0) 0 M
def fR_add (a1 : Int32) (M : Mem) : Option (Int32 × Mem) :=
  if (M 40 1) < 160 then
    if ib (M 40 1) 160 then
    some (1, (wr (wr M 41 (ix (M 40 1)) a1) 40 1 (((wr M 41 (ix (M 40 1)) a1) 40 1) + 1)))
    else none
  else
    some (0, M)
def fR_isDigit (a0 : Int32) (M : Mem) : Option (Int32 × Mem) :=
  if a0 < 48 then
    some (0, M)
  else
    if 57 < a0 then
      some (0, M)
    else
      some (1, M)
def fR_isLetter (a0 : Int32) (M : Mem) : Option (Int32 × Mem) :=
  if a0 < 97 then
    some (0, M)
  else
    if 122 < a0 then
      some (0, M)
    else
      some (1, M)
def fR_isSign_b48 (M : Mem) : Option (Int32 × Mem) :=
  some (1, M)
def fR_isSign (a0 : Int32) (M : Mem) : Option (Int32 × Mem) :=
  if a0 = 40 then
    fR_isSign_b48 M
  else
    if a0 = 41 then
      fR_isSign_b48 M
    else
      if a0 = 59 then
        fR_isSign_b48 M
      else
        if a0 = 43 then
          fR_isSign_b48 M
        else
          if a0 = 45 then
            fR_isSign_b48 M
          else
            if a0 = 42 then
              fR_isSign_b48 M
            else
              if a0 = 60 then
                fR_isSign_b48 M
              else
                if a0 = 61 then
                  fR_isSign_b48 M
                else
                  some (0, M)
def fR_refuse_b16 (M : Mem) : Option (Mem) :=
  some (wr M 40 4 14)
def fR_refuse (M : Mem) : Option (Mem) :=
  if (M 40 6) = (-1) then
    fR_refuse_b16 (wr M 40 6 (M 40 2))
  else
    fR_refuse_b16 M
def fR_takeNumber_b68 (M : Mem) : Option (Mem) :=
  if (((wr M 40 4 12) 40 3) - ((wr M 40 4 12) 40 2)) ≤ 4 then
    some (wr M 40 4 12)
  else
    (fR_refuse (wr M 40 4 12)).bind fun M1 =>
    some M1
def fR_takeNumber_b5 : Nat → Mem → Option (Mem)
  | 0, _ => none
  | z + 1, M =>
    if (M 40 1) ≤ (M 40 3) then
      fR_takeNumber_b68 M
    else
      if ib (M 40 3) 160 then
      (fR_isDigit (M 41 (ix (M 40 3))) M).bind fun w2 =>
      if w2.1 = 0 then
        fR_takeNumber_b68 w2.2
      else
        if ib (w2.2 40 3) 160 then
        fR_takeNumber_b5 z (wr (wr w2.2 40 5 ((((w2.2 40 5) * 10) + (w2.2 41 (ix (w2.2 40 3)))) - 48)) 40 3 (((wr w2.2 40 5 ((((w2.2 40 5) * 10) + (w2.2 41 (ix (w2.2 40 3)))) - 48)) 40 3) + 1))
        else none
      else none
def fR_takeNumber (M : Mem) : Option (Mem) :=
  fR_takeNumber_b5 1000 (wr M 40 5 0)
def fR_isOnTape_b2 (a1 : Int32) (a2 : Int32) : Nat → Int32 → Mem → Option (Int32 × Mem)
  | 0, _, _ => none
  | z + 1, a3, M =>
    if a2 ≤ a3 then
      some (1, M)
    else
      if ib a3 65 then
      if ib (((M 40 2) + a3) - a1) 160 then
      if ((txByt.getD 1 []).getD (ix a3) 0) = (M 41 (ix (((M 40 2) + a3) - a1))) then
        fR_isOnTape_b2 a1 a2 z (a3 + 1) M
      else
        some (0, M)
      else none
      else none
def fR_isOnTape (a1 : Int32) (a2 : Int32) (M : Mem) : Option (Int32 × Mem) :=
  fR_isOnTape_b2 a1 a2 1000 a1 M
def fR_wordOnTape_b59 (k6 : Int32 → Int32 → Int32 → Mem → Option (Int32 × Mem)) (a1 : Int32) (a2 : Int32) (a3 : Int32) (M : Mem) : Option (Int32 × Mem) :=
  k6 a1 a2 (a3 + 1) M
def fR_wordOnTape_b52 (k6 : Int32 → Int32 → Int32 → Mem → Option (Int32 × Mem)) (a1 : Int32) (a3 : Int32) (M : Mem) : Option (Int32 × Mem) :=
  fR_wordOnTape_b59 k6 (a1 + 1) (a3 + 1) a3 M
def fR_wordOnTape_b6 : Nat → Int32 → Int32 → Int32 → Mem → Option (Int32 × Mem)
  | 0, _, _, _, _ => none
  | z + 1, a1, a2, a3, M =>
    if (Int32.ofNat (txLen.getD 1 0)) ≤ a3 then
      some (14, M)
    else
      if ib a3 65 then
      if ((txByt.getD 1 []).getD (ix a3) 0) = 32 then
        if (a3 - a2) = ((M 40 3) - (M 40 2)) then
          (fR_isOnTape a2 a3 M).bind fun w1 =>
          if w1.1 = 0 then
            fR_wordOnTape_b52 (fR_wordOnTape_b6 z) a1 a3 w1.2
          else
            some (a1, w1.2)
        else
          fR_wordOnTape_b52 (fR_wordOnTape_b6 z) a1 a3 M
      else
        fR_wordOnTape_b59 (fR_wordOnTape_b6 z) a1 a2 a3 M
      else none
def fR_wordOnTape (M : Mem) : Option (Int32 × Mem) :=
  fR_wordOnTape_b6 1000 0 0 0 M
def fR_takeWord_b39 (M : Mem) : Option (Mem) :=
  (fR_wordOnTape M).bind fun w1 =>
  if ((wr w1.2 40 4 w1.1) 40 4) = 14 then
    (fR_refuse (wr w1.2 40 4 w1.1)).bind fun M2 =>
    some M2
  else
    some (wr w1.2 40 4 w1.1)
def fR_takeWord_b0 : Nat → Mem → Option (Mem)
  | 0, _ => none
  | z + 1, M =>
    if (M 40 1) ≤ (M 40 3) then
      fR_takeWord_b39 M
    else
      if ib (M 40 3) 160 then
      (fR_isLetter (M 41 (ix (M 40 3))) M).bind fun w3 =>
      if w3.1 = 0 then
        fR_takeWord_b39 w3.2
      else
        fR_takeWord_b0 z (wr w3.2 40 3 ((w3.2 40 3) + 1))
      else none
def fR_takeWord (M : Mem) : Option (Mem) :=
  fR_takeWord_b0 1000 M
def fR_advance_b52 (M : Mem) : Option (Mem) :=
  if ((wr M 40 2 (M 40 3)) 40 2) < ((wr M 40 2 (M 40 3)) 40 1) then
    if ib ((wr M 40 2 (M 40 3)) 40 2) 160 then
    (fR_isLetter ((wr M 40 2 (M 40 3)) 41 (ix ((wr M 40 2 (M 40 3)) 40 2))) (wr M 40 2 (M 40 3))).bind fun w1 =>
    if w1.1 = 0 then
      if ib (w1.2 40 2) 160 then
      (fR_isDigit (w1.2 41 (ix (w1.2 40 2))) w1.2).bind fun w2 =>
      if w2.1 = 0 then
        if ib (w2.2 40 2) 160 then
        (fR_isSign (w2.2 41 (ix (w2.2 40 2))) w2.2).bind fun w3 =>
        if w3.1 = 0 then
          (fR_refuse w3.2).bind fun M4 =>
          some M4
        else
          if ib (w3.2 40 2) 160 then
          some (wr (wr w3.2 40 4 (w3.2 41 (ix (w3.2 40 2)))) 40 3 (((wr w3.2 40 4 (w3.2 41 (ix (w3.2 40 2)))) 40 3) + 1))
          else none
        else none
      else
        (fR_takeNumber w2.2).bind fun M5 =>
        some M5
      else none
    else
      (fR_takeWord w1.2).bind fun M6 =>
      some M6
    else none
  else
    some (wr (wr M 40 2 (M 40 3)) 40 4 13)
def fR_advance_b39 (k0 : Mem → Option (Mem)) (M : Mem) : Option (Mem) :=
  k0 (wr M 40 3 ((M 40 3) + 1))
def fR_advance_b0 : Nat → Mem → Option (Mem)
  | 0, _ => none
  | z + 1, M =>
    if (M 40 1) ≤ (M 40 3) then
      fR_advance_b52 M
    else
      if ib (M 40 3) 160 then
      if (M 41 (ix (M 40 3))) = 32 then
        fR_advance_b39 (fR_advance_b0 z) M
      else
        if ib (M 40 3) 160 then
        if (M 41 (ix (M 40 3))) = 10 then
          fR_advance_b39 (fR_advance_b0 z) M
        else
          fR_advance_b52 M
        else none
      else none
def fR_advance (M : Mem) : Option (Mem) :=
  fR_advance_b0 1000 M
def fR_expect (a1 : Int32) (M : Mem) : Option (Mem) :=
  if (M 40 4) = a1 then
    if a1 = 13 then
      some M
    else
      (fR_advance M).bind fun M1 =>
      some M1
  else
    (fR_refuse M).bind fun M2 =>
    some M2
def fR_write (a1 : Int32) (M : Mem) : Option (Mem) :=
  if 160 ≤ (M 40 9) then
    some M
  else
    if ib (M 40 9) 160 then
    some (wr (wr M 42 (ix (M 40 9)) a1) 40 9 (((wr M 42 (ix (M 40 9)) a1) 40 9) + 1))
    else none
def fR_readOne_b121 (rc : Nat → Int32 → Mem → Option Mem) (M : Mem) : Option (Mem) :=
  (fR_refuse M).bind fun M4 =>
  some M4
def fR_readOne_b87 (rc : Nat → Int32 → Mem → Option Mem) (a1 : Int32) (M : Mem) : Option (Mem) :=
  if (M 40 4) = 40 then
    if 5 ≤ a1 then
      fR_readOne_b121 rc M
    else
      (fR_advance M).bind fun M5 =>
      (rc 0 (a1 + 1) M5).bind fun M6 =>
      (fR_expect 41 M6).bind fun M7 =>
      some M7
  else
    fR_readOne_b121 rc M
def fR_readOne (rc : Nat → Int32 → Mem → Option Mem) (a1 : Int32) (M : Mem) : Option (Mem) :=
  if (M 40 4) = 12 then
    (fR_write (M 40 5) M).bind fun M1 =>
    (fR_advance M1).bind fun M2 =>
    some M2
  else
    (fN_within (M 40 4) 6 M).bind fun w3 =>
    if w3.1 = 0 then
      if (w3.2 40 4) = 45 then
        if 5 ≤ a1 then
          fR_readOne_b87 rc a1 w3.2
        else
          (fR_advance w3.2).bind fun M8 =>
          (rc 5 (a1 + 1) M8).bind fun M9 =>
          (fR_write (-12) M9).bind fun M10 =>
          some M10
      else
        fR_readOne_b87 rc a1 w3.2
    else
      (fR_write ((-1) - (w3.2 40 4)) w3.2).bind fun M11 =>
      (fR_advance M11).bind fun M12 =>
      some M12
def fR_readTerm_b7 (rc : Nat → Int32 → Mem → Option Mem) (a1 : Int32) : Nat → Int32 → Mem → Option (Mem)
  | 0, _, _ => none
  | z + 1, a2, M =>
    if 160 ≤ a2 then
      some M
    else
      if (M 40 4) = 42 then
        (fR_advance M).bind fun M2 =>
        (rc 5 a1 M2).bind fun M3 =>
        (fR_write (-42) M3).bind fun M4 =>
        fR_readTerm_b7 rc a1 z (a2 + 1) M4
      else
        some M
def fR_readTerm (rc : Nat → Int32 → Mem → Option Mem) (a1 : Int32) (M : Mem) : Option (Mem) :=
  (rc 5 a1 M).bind fun M1 =>
  fR_readTerm_b7 rc a1 1000 0 M1
def fR_readSum_b32 (rc : Nat → Int32 → Mem → Option Mem) (k7 : Int32 → Mem → Option (Mem)) (a1 : Int32) (a2 : Int32) (M : Mem) : Option (Mem) :=
  (fR_advance M).bind fun M2 =>
  (rc 4 a1 M2).bind fun M3 =>
  (fR_write (-(M 40 4)) M3).bind fun M4 =>
  k7 (a2 + 1) M4
def fR_readSum_b7 (rc : Nat → Int32 → Mem → Option Mem) (a1 : Int32) : Nat → Int32 → Mem → Option (Mem)
  | 0, _, _ => none
  | z + 1, a2, M =>
    if 160 ≤ a2 then
      some M
    else
      if (M 40 4) = 43 then
        fR_readSum_b32 rc (fR_readSum_b7 rc a1 z) a1 a2 M
      else
        if (M 40 4) = 45 then
          fR_readSum_b32 rc (fR_readSum_b7 rc a1 z) a1 a2 M
        else
          some M
def fR_readSum (rc : Nat → Int32 → Mem → Option Mem) (a1 : Int32) (M : Mem) : Option (Mem) :=
  (rc 4 a1 M).bind fun M1 =>
  fR_readSum_b7 rc a1 1000 0 M1
def fR_readNot_b55 (rc : Nat → Int32 → Mem → Option Mem) (a1 : Int32) (M : Mem) : Option (Mem) :=
  (fR_advance M).bind fun M2 =>
  (rc 3 a1 M2).bind fun M3 =>
  (fR_write (-(M 40 4)) M3).bind fun M4 =>
  some M4
def fR_readNot_b32 (rc : Nat → Int32 → Mem → Option Mem) (a1 : Int32) (M : Mem) : Option (Mem) :=
  (rc 3 a1 M).bind fun M1 =>
  if (M1 40 4) = 60 then
    fR_readNot_b55 rc a1 M1
  else
    if (M1 40 4) = 61 then
      fR_readNot_b55 rc a1 M1
    else
      some M1
def fR_readNot (rc : Nat → Int32 → Mem → Option Mem) (a1 : Int32) (M : Mem) : Option (Mem) :=
  if (M 40 4) = 11 then
    if 5 ≤ a1 then
      fR_readNot_b32 rc a1 M
    else
      (fR_advance M).bind fun M5 =>
      (rc 2 (a1 + 1) M5).bind fun M6 =>
      (fR_write (-11) M6).bind fun M7 =>
      some M7
  else
    fR_readNot_b32 rc a1 M
def fR_readBoth_b7 (rc : Nat → Int32 → Mem → Option Mem) (a1 : Int32) : Nat → Int32 → Mem → Option (Mem)
  | 0, _, _ => none
  | z + 1, a2, M =>
    if 160 ≤ a2 then
      some M
    else
      if (M 40 4) = 10 then
        (fR_advance M).bind fun M2 =>
        (rc 2 a1 M2).bind fun M3 =>
        (fR_write (-10) M3).bind fun M4 =>
        fR_readBoth_b7 rc a1 z (a2 + 1) M4
      else
        some M
def fR_readBoth (rc : Nat → Int32 → Mem → Option Mem) (a1 : Int32) (M : Mem) : Option (Mem) :=
  (rc 2 a1 M).bind fun M1 =>
  fR_readBoth_b7 rc a1 1000 0 M1
def fR_readEither_b7 (rc : Nat → Int32 → Mem → Option Mem) (a1 : Int32) : Nat → Int32 → Mem → Option (Mem)
  | 0, _, _ => none
  | z + 1, a2, M =>
    if 160 ≤ a2 then
      some M
    else
      if (M 40 4) = 9 then
        (fR_advance M).bind fun M2 =>
        (rc 1 a1 M2).bind fun M3 =>
        (fR_write (-9) M3).bind fun M4 =>
        fR_readEither_b7 rc a1 z (a2 + 1) M4
      else
        some M
def fR_readEither (rc : Nat → Int32 → Mem → Option Mem) (a1 : Int32) (M : Mem) : Option (Mem) :=
  (rc 1 a1 M).bind fun M1 =>
  fR_readEither_b7 rc a1 1000 0 M1
def f_rR : Nat → Nat → Int32 → Mem → Option Mem
  | 0, _, _, _ => none
  | d + 1, w, a, M =>
    if w = 0 then fR_readEither (f_rR d) a M else if w = 1 then fR_readBoth (f_rR d) a M else if w = 2 then fR_readNot (f_rR d) a M else if w = 3 then fR_readSum (f_rR d) a M else if w = 4 then fR_readTerm (f_rR d) a M else fR_readOne (f_rR d) a M
def fG_become (q0 : Nat) (M : Mem) : Option (Mem) :=
  if 0 ≤ (0 : Int32).toInt ∧ 0 ≤ (0 : Int32).toInt ∧ 0 ≤ (160 : Int32).toInt ∧ (0 : Int32).toInt + (160 : Int32).toInt ≤ 160 ∧ (0 : Int32).toInt + (160 : Int32).toInt ≤ 160 then
  if 0 ≤ (0 : Int32).toInt ∧ 0 ≤ (0 : Int32).toInt ∧ 0 ≤ (3 : Int32).toInt ∧ (0 : Int32).toInt + (3 : Int32).toInt ≤ 3 ∧ (0 : Int32).toInt + (3 : Int32).toInt ≤ 3 then
  some (wrR (wrR M (q0 + 1) (va_cpy (M 42) (M (q0 + 1)) (ix 0) (ix 0) (ix 160))) (q0 + 2) (va_cpy ((wrR M (q0 + 1) (va_cpy (M 42) (M (q0 + 1)) (ix 0) (ix 0) (ix 160))) 43) ((wrR M (q0 + 1) (va_cpy (M 42) (M (q0 + 1)) (ix 0) (ix 0) (ix 160))) (q0 + 2)) (ix 0) (ix 0) (ix 3)))
  else none
  else none
def fR_read_b87 (M : Mem) : Option (Int32 × Mem) :=
  some (((wr M 40 1 0) 40 6), (wr M 40 1 0))
def fR_read_b21 (q1 : Nat) : Nat → Int32 → Mem → Option (Int32 × Mem)
  | 0, _, _ => none
  | z + 1, a2, M =>
    if 3 ≤ a2 then
      (fR_expect 13 M).bind fun M2 =>
      if (M2 40 6) = (-1) then
        (fG_become q1 M2).bind fun M3 =>
        fR_read_b87 M3
      else
        fR_read_b87 M2
    else
      (fR_expect (6 + a2) M).bind fun M4 =>
      (f_rR 60 0 0 M4).bind fun M5 =>
      (fR_expect 59 M5).bind fun M6 =>
      if ib a2 3 then
      fR_read_b21 q1 z (a2 + 1) (wr M6 43 (ix a2) (M6 40 9))
      else none
def fR_read (q1 : Nat) (M : Mem) : Option (Int32 × Mem) :=
  (fR_advance (wr (wr (wr M 40 9 0) 40 3 0) 40 6 (-1))).bind fun M1 =>
  fR_read_b21 q1 1000 0 M1
def fS_isMissing (q0 : Nat) (M : Mem) : Option (Int32 × Mem) :=
  if (M q0 0) = (-1) then
    some (1, M)
  else
    some (0, M)
def fS_become_b12 (q0 : Nat) : Nat → Int32 → Mem → Option (Mem)
  | 0, _, _ => none
  | z + 1, a3, M =>
    if 40 ≤ a3 then
      some M
    else
      if ib a3 40 then
      fS_become_b12 q0 z (a3 + 1) (wr M (q0 + 1) (ix a3) 0)
      else none
def fS_become (q0 : Nat) (a1 : Int32) (a2 : Int32) (M : Mem) : Option (Mem) :=
  fS_become_b12 q0 1000 0 (wr (wr M q0 0 a1) q0 1 a2)
def fS_put (q0 : Nat) (a1 : Int32) (a2 : Int32) (M : Mem) : Option (Mem) :=
  (fN_within a1 (M q0 1) M).bind fun w1 =>
  if w1.1 = 0 then
    some w1.2
  else
    if (w1.2 q0 0) = 0 then
      if ib a1 40 then
      some (wr w1.2 (q0 + 1) (ix a1) (a2.toInt8.toInt32))
      else none
    else
      if (w1.2 q0 0) = 1 then
        if ib a1 40 then
        some (wr w1.2 (q0 + 1) (ix a1) (a2.toInt16.toInt32))
        else none
      else
        if ib a1 40 then
        some (wr w1.2 (q0 + 1) (ix a1) a2)
        else none
def fS_has (q0 : Nat) (a1 : Int32) (a2 : Int32) (M : Mem) : Option (Int32 × Mem) :=
  if a1 < 0 then
    some (0, M)
  else
    if a2 < 0 then
      some (0, M)
    else
      if (M q0 1) < a2 then
        some (0, M)
      else
        if ((M q0 1) - a2) < a1 then
          some (0, M)
        else
          some (1, M)
def fN_toldOfMaid (q0 : Nat) (a1 : Int32) (M : Mem) : Option (Int32 × Mem) :=
  if a1 = 4 then
    some ((M q0 1), M)
  else
  if a1 = 5 then
    some ((M q0 2), M)
  else
  if a1 = 6 then
    some ((M q0 0), M)
  else
  if a1 = 7 then
    some ((M q0 3), M)
  else
    (fN_within (a1 - 10) 5 M).bind fun w5 =>
    if w5.1 = 0 then
      some ((-2), w5.2)
    else
      (fA_roomListed q0 (a1 - 10) w5.2).bind fun w6 =>
      some (w6.1, w6.2)
def fN_told (a1 : Int32) (a2 : Int32) (M : Mem) : Option (Int32 × Mem) :=
  if a2 = 0 then
    some ((M 1 0), M)
  else
  if a2 = 1 then
    (fN_within a1 8 M).bind fun w2 =>
    if w2.1 = 0 then
      some ((-2), w2.2)
    else
      if ib a1 8 then
      some ((w2.2 4 (ix a1)), w2.2)
      else none
  else
  if a2 = 2 then
    (fN_within a1 (M 1 1) M).bind fun w4 =>
    if w4.1 = 0 then
      some ((-2), w4.2)
    else
      if ib a1 8 then
      some ((w4.2 2 (ix a1)), w4.2)
      else none
  else
  if a2 = 3 then
    (fN_within a1 (M 1 1) M).bind fun w6 =>
    if w6.1 = 0 then
      some ((-2), w6.2)
    else
      if ib a1 8 then
      some ((w6.2 3 (ix a1)), w6.2)
      else none
  else
    (fN_within a1 (M 1 2) M).bind fun w8 =>
    if w8.1 = 0 then
      some ((-2), w8.2)
    else
      if ib a1 4 then
      (fN_toldOfMaid (6 + 2 * ix a1) a2 w8.2).bind fun w10 =>
      some (w10.1, w10.2)
      else none
def fN_set_b57 (a4 : Int32) (M : Mem) : Option (Int32 × Mem) :=
  some (a4, M)
def fN_set (a1 : Int32) (a2 : Int32) (a3 : Int32) (M : Mem) : Option (Int32 × Mem) :=
  (fN_within a1 6 M).bind fun w1 =>
  if w1.1 = 0 then
    some ((-2), w1.2)
  else
    if ib a1 6 then
    if a3 < (([0, 0, 0, 1, 0, 0] : List Int32).getD (ix a1) 0) then
      some ((-2), w1.2)
    else
      if ib a1 6 then
      if a3 ≤ (([3, 99, 7, 50, 9, 7] : List Int32).getD (ix a1) 0) then
        (fN_told a2 a1 w1.2).bind fun w2 =>
        if w2.1 = (-2) then
          fN_set_b57 w2.1 w2.2
        else
          (fH_put 1 a1 a2 a3 w2.2).bind fun M3 =>
          fN_set_b57 w2.1 M3
      else
        some ((-2), w1.2)
      else none
    else none
def fN_stay (a1 : Int32) (a2 : Int32) (M : Mem) : Option (Int32 × Mem) :=
  (fN_within a1 8 M).bind fun w1 =>
  if w1.1 = 0 then
    some ((-2), w1.2)
  else
    if ib 3 6 then
    if a2 < (([0, 0, 0, 1, 0, 0] : List Int32).getD (ix 3) 0) then
      some ((-2), w1.2)
    else
      if ib 3 6 then
      if a2 ≤ (([3, 99, 7, 50, 9, 7] : List Int32).getD (ix 3) 0) then
        if (w1.2 1 1) < 8 then
          if ib (w1.2 1 1) 8 then
          if ib ((wr w1.2 2 (ix (w1.2 1 1)) a1) 1 1) 8 then
          some (((wr (wr (wr w1.2 2 (ix (w1.2 1 1)) a1) 3 (ix ((wr w1.2 2 (ix (w1.2 1 1)) a1) 1 1)) a2) 1 1 (((wr (wr w1.2 2 (ix (w1.2 1 1)) a1) 3 (ix ((wr w1.2 2 (ix (w1.2 1 1)) a1) 1 1)) a2) 1 1) + 1)) 1 1), (wr (wr (wr w1.2 2 (ix (w1.2 1 1)) a1) 3 (ix ((wr w1.2 2 (ix (w1.2 1 1)) a1) 1 1)) a2) 1 1 (((wr (wr w1.2 2 (ix (w1.2 1 1)) a1) 3 (ix ((wr w1.2 2 (ix (w1.2 1 1)) a1) 1 1)) a2) 1 1) + 1)))
          else none
          else none
        else
          some ((-4), w1.2)
      else
        some ((-2), w1.2)
      else none
    else none
def fN_maid (a1 : Int32) (a2 : Int32) (a3 : Int32) (M : Mem) : Option (Int32 × Mem) :=
  (fN_within a1 6 M).bind fun w1 =>
  if w1.1 = 0 then
    some ((-2), w1.2)
  else
    (fN_within a2 10 w1.2).bind fun w2 =>
    if w2.1 = 0 then
      some ((-2), w2.2)
    else
      (fN_within a3 8 w2.2).bind fun w3 =>
      if w3.1 = 0 then
        some ((-2), w3.2)
      else
        if (w3.2 1 2) < 4 then
          if ib (w3.2 1 2) 4 then
          (fA_arrive (6 + 2 * ix (w3.2 1 2)) a1 a2 a3 w3.2).bind fun M5 =>
          some ((((wr M5 1 2 ((M5 1 2) + 1)) 1 2) - 1), (wr M5 1 2 ((M5 1 2) + 1)))
          else none
        else
          some ((-4), w3.2)
def fN_list (a1 : Int32) (a2 : Int32) (M : Mem) : Option (Int32 × Mem) :=
  (fN_within a1 (M 1 2) M).bind fun w1 =>
  if w1.1 = 0 then
    some ((-2), w1.2)
  else
    (fN_within a2 8 w1.2).bind fun w2 =>
    if w2.1 = 0 then
      some ((-2), w2.2)
    else
      if ib a1 4 then
      if (w2.2 (6 + 2 * ix a1) 3) < 5 then
        if ib (w2.2 (6 + 2 * ix a1) 3) 5 then
        some (((wr (wr w2.2 ((6 + 2 * ix a1) + 1) (ix (w2.2 (6 + 2 * ix a1) 3)) a2) (6 + 2 * ix a1) 3 (((wr w2.2 ((6 + 2 * ix a1) + 1) (ix (w2.2 (6 + 2 * ix a1) 3)) a2) (6 + 2 * ix a1) 3) + 1)) (6 + 2 * ix a1) 3), (wr (wr w2.2 ((6 + 2 * ix a1) + 1) (ix (w2.2 (6 + 2 * ix a1) 3)) a2) (6 + 2 * ix a1) 3 (((wr w2.2 ((6 + 2 * ix a1) + 1) (ix (w2.2 (6 + 2 * ix a1) 3)) a2) (6 + 2 * ix a1) 3) + 1)))
        else none
      else
        some ((-4), w2.2)
      else none
def fN_clear (a1 : Int32) (M : Mem) : Option (Int32 × Mem) :=
  (fN_within a1 (M 1 2) M).bind fun w1 =>
  if w1.1 = 0 then
    some ((-2), w1.2)
  else
    if ib a1 4 then
    if ib a1 4 then
    some ((w1.2 (6 + 2 * ix a1) 3), (wr w1.2 (6 + 2 * ix a1) 3 0))
    else none
    else none
def fN_way (a1 : Int32) (a2 : Int32) (a3 : Int32) (M : Mem) : Option (Int32 × Mem) :=
  (fN_within a1 8 M).bind fun w1 =>
  if w1.1 = 0 then
    some ((-2), w1.2)
  else
    (fN_within a2 8 w1.2).bind fun w2 =>
    if w2.1 = 0 then
      some ((-2), w2.2)
    else
      (fN_within a3 2 w2.2).bind fun w3 =>
      if w3.1 = 0 then
        some ((-2), w3.2)
      else
        if a3 = 0 then
          (fY_far (w3.2 1 0) a1 a2 w3.2).bind fun w4 =>
          some (w4.1, w4.2)
        else
          (fY_nextRoom (w3.2 1 0) a1 a2 w3.2).bind fun w5 =>
          some (w5.1, w5.2)
def fN_feed (a1 : Int32) (M : Mem) : Option (Int32 × Mem) :=
  (fN_within a1 256 M).bind fun w1 =>
  if w1.1 = 0 then
    some ((-2), w1.2)
  else
    (fR_add a1 w1.2).bind fun w2 =>
    if w2.1 = 0 then
      some ((-4), w2.2)
    else
      some ((w2.2 40 1), w2.2)
def fN_text (M : Mem) : Option (Int32 × Mem) :=
  if (M 0 6) < 6 then
    if ib (M 0 6) 6 then
    (fR_read (59 + 3 * ix (M 0 6)) M).bind fun w2 =>
    if w2.1 = (-1) then
      some ((((wr w2.2 0 6 ((w2.2 0 6) + 1)) 0 6) - 1), (wr w2.2 0 6 ((w2.2 0 6) + 1)))
    else
      some (((-100) - w2.1), w2.2)
    else none
  else
    some ((-4), M)
def fN_force (a1 : Int32) (M : Mem) : Option (Int32 × Mem) :=
  (fN_within a1 (M 0 6) M).bind fun w1 =>
  if w1.1 = 0 then
    some ((-2), w1.2)
  else
    some ((w1.2 1 3), (wr w1.2 1 3 a1))
def fN_master (a1 : Int32) (M : Mem) : Option (Int32 × Mem) :=
  (fN_within a1 100 M).bind fun w1 =>
  if w1.1 = 0 then
    some ((-2), w1.2)
  else
    (fH_masterIn 1 a1 w1.2).bind fun w2 =>
    some (w2.1, w2.2)
def fN_free_b47 (a2 : Int32) (a3 : Int32) (M : Mem) : Option (Int32 × Mem) :=
  some ((a3 - a2), M)
def fN_free_b23 (a1 : Int32) (a2 : Int32) : Nat → Int32 → Mem → Option (Int32 × Mem)
  | 0, _, _ => none
  | z + 1, a3, M =>
    if 100 ≤ a3 then
      fN_free_b47 a2 a3 M
    else
      (fH_masterIn 1 a3 M).bind fun w3 =>
      if w3.1 = a1 then
        fN_free_b47 a2 a3 w3.2
      else
        fN_free_b23 a1 a2 z (a3 + 1) w3.2
def fN_free (a1 : Int32) (a2 : Int32) (M : Mem) : Option (Int32 × Mem) :=
  (fN_within a1 8 M).bind fun w1 =>
  if w1.1 = 0 then
    some ((-2), w1.2)
  else
    (fN_within a2 100 w1.2).bind fun w2 =>
    if w2.1 = 0 then
      some ((-2), w2.2)
    else
      fN_free_b23 a1 a2 1000 a2 w2.2
def fN_longestFree_b59 (k11 : Int32 → Int32 → Int32 → Int32 → Mem → Option (Int32 × Mem)) (a1 : Int32) (a2 : Int32) (a3 : Int32) (a4 : Int32) (a5 : Int32) (a6 : Int32) (M : Mem) : Option (Int32 × Mem) :=
  k11 a3 a4 a5 (a6 + 1) M
def fN_longestFree_b39 (k11 : Int32 → Int32 → Int32 → Int32 → Mem → Option (Int32 × Mem)) (a1 : Int32) (a2 : Int32) (a3 : Int32) (a4 : Int32) (a6 : Int32) (s0 : Int32) (M : Mem) : Option (Int32 × Mem) :=
  if s0 ≤ a3 then
    fN_longestFree_b59 k11 a1 a2 a3 a4 s0 a6 M
  else
    fN_longestFree_b59 k11 a1 a2 s0 ((a6 - s0) + 1) s0 a6 M
def fN_longestFree_b11 (a1 : Int32) (a2 : Int32) : Nat → Int32 → Int32 → Int32 → Int32 → Mem → Option (Int32 × Mem)
  | 0, _, _, _, _, _ => none
  | z + 1, a3, a4, a5, a6, M =>
    if 100 ≤ a6 then
      if a2 = 0 then
        some (a3, M)
      else
        some (a4, M)
    else
      (fH_masterIn 1 a6 M).bind fun w1 =>
      if w1.1 = a1 then
        fN_longestFree_b39 (fN_longestFree_b11 a1 a2 z) a1 a2 a3 a4 a6 0 w1.2
      else
        fN_longestFree_b39 (fN_longestFree_b11 a1 a2 z) a1 a2 a3 a4 a6 (a5 + 1) w1.2
def fN_longestFree (a1 : Int32) (a2 : Int32) (M : Mem) : Option (Int32 × Mem) :=
  fN_longestFree_b11 a1 a2 1000 0 (-1) 0 0 M
def fN_longest (a1 : Int32) (a2 : Int32) (M : Mem) : Option (Int32 × Mem) :=
  (fN_within a1 8 M).bind fun w1 =>
  if w1.1 = 0 then
    some ((-2), w1.2)
  else
    (fN_within a2 2 w1.2).bind fun w2 =>
    if w2.1 = 0 then
      some ((-2), w2.2)
    else
      (fN_longestFree a1 a2 w2.2).bind fun w3 =>
      some (w3.1, w3.2)
def fN_never_b39 (k17 : Int32 → Int32 → Mem → Option (Int32 × Mem)) (a1 : Int32) (a2 : Int32) (a3 : Int32) (M : Mem) : Option (Int32 × Mem) :=
  k17 a2 (a3 + 1) M
def fN_never_b17 (a1 : Int32) : Nat → Int32 → Int32 → Mem → Option (Int32 × Mem)
  | 0, _, _, _ => none
  | z + 1, a2, a3, M =>
    if 8 ≤ a3 then
      some (a2, M)
    else
      (fN_longestFree a3 0 M).bind fun w1 =>
      if a1 ≤ w1.1 then
        fN_never_b39 (fN_never_b17 a1 z) a1 a2 a3 w1.2
      else
        fN_never_b39 (fN_never_b17 a1 z) a1 (a2 ||| (1 <<< (a3 &&& 31))) a3 w1.2
def fN_never (a1 : Int32) (M : Mem) : Option (Int32 × Mem) :=
  if a1 < 0 then
    some ((-2), M)
  else
    if a1 ≤ 100 then
      fN_never_b17 a1 1000 0 0 M
    else
      some ((-2), M)
def fN_isAskedOfMorning_b52 (M : Mem) : Option (Int32 × Mem) :=
  some (1, M)
def fN_isAskedOfMorning_b32 (a1 : Int32) (M : Mem) : Option (Int32 × Mem) :=
  (fN_within a1 4 M).bind fun w1 =>
  if w1.1 = 0 then
    (fN_within (a1 - 50) 8 w1.2).bind fun w2 =>
    if w2.1 = 0 then
      some (0, w2.2)
    else
      fN_isAskedOfMorning_b52 w2.2
  else
    fN_isAskedOfMorning_b52 w1.2
def fN_isAskedOfMorning (a1 : Int32) (M : Mem) : Option (Int32 × Mem) :=
  if a1 < 10 then
    fN_isAskedOfMorning_b32 a1 M
  else
    if 50 ≤ a1 then
      fN_isAskedOfMorning_b32 a1 M
    else
      if (M 1 2) ≤ (a1 - a1 / 10 * 10) then
        some (0, M)
      else
        some (1, M)
def fN_morning (a1 : Int32) (a2 : Int32) (M : Mem) : Option (Int32 × Mem) :=
  if a1 < 0 then
    some ((-2), M)
  else
    if 100 < a1 then
      some ((-2), M)
    else
      (fN_isAskedOfMorning a2 M).bind fun w1 =>
      if w1.1 = 0 then
        some ((-2), w1.2)
      else
        (fD_run 1 a1 w1.2).bind fun M2 =>
        if a2 < 50 then
          if a2 < 10 then
            if a2 = 0 then
              (fD_workLeft M2).bind fun w3 =>
              some (w3.1, w3.2)
            else
            if a2 = 1 then
              some ((M2 45 13), M2)
            else
            if a2 = 2 then
              some ((M2 45 14), M2)
            else
              (fD_dear M2).bind fun w7 =>
              some (w7.1, w7.2)
          else
            (fD_ofMaid (a2 - a2 / 10 * 10) (a2 / 10) M2).bind fun w8 =>
            some (w8.1, w8.2)
        else
          if ib (a2 - 50) 8 then
          some ((M2 56 (ix (a2 - 50))), M2)
          else none
def fN_firstOrder_b4 (a1 : Int32) : Nat → Int32 → Int32 → Mem → Option (Int32 × Mem)
  | 0, _, _, _ => none
  | z + 1, a2, a3, M =>
    if a1 ≤ a3 then
      some (a2, M)
    else
      if ib a3 5 then
      fN_firstOrder_b4 a1 z (a2 * (a3 + 1)) (a3 + 1) (wr M 58 (ix a3) a3)
      else none
def fN_firstOrder (a1 : Int32) (M : Mem) : Option (Int32 × Mem) :=
  fN_firstOrder_b4 a1 1000 1 0 M
def fN_swapPlaces (a1 : Int32) (a2 : Int32) (M : Mem) : Option (Mem) :=
  if ib a1 5 then
  if ib a2 5 then
  if ib a1 5 then
  if ib a2 5 then
  some (wr (wr M 58 (ix a1) (M 58 (ix a2))) 58 (ix a2) (M 58 (ix a1)))
  else none
  else none
  else none
  else none
def fN_nextOrder_b82 : Nat → Int32 → Int32 → Mem → Option (Mem)
  | 0, _, _, _ => none
  | z + 1, a4, a5, M =>
    if a5 ≤ a4 then
      some M
    else
      (fN_swapPlaces a4 a5 M).bind fun M2 =>
      fN_nextOrder_b82 z (a4 + 1) (a5 + (-1)) M2
def fN_nextOrder_b66 (a1 : Int32) (a2 : Int32) (a3 : Int32) (M : Mem) : Option (Mem) :=
  (fN_swapPlaces a2 a3 M).bind fun M1 =>
  fN_nextOrder_b82 1000 (a2 + 1) (a1 - 1) M1
def fN_nextOrder_b40 (a1 : Int32) (a2 : Int32) : Nat → Int32 → Mem → Option (Mem)
  | 0, _, _ => none
  | z + 1, a3, M =>
    if a3 ≤ a2 then
      fN_nextOrder_b66 a1 a2 a3 M
    else
      if ib a3 5 then
      if ib a2 5 then
      if (M 58 (ix a2)) ≤ (M 58 (ix a3)) then
        fN_nextOrder_b66 a1 a2 a3 M
      else
        fN_nextOrder_b40 a1 a2 z (a3 + (-1)) M
      else none
      else none
def fN_nextOrder_b31 (a1 : Int32) (a2 : Int32) (M : Mem) : Option (Mem) :=
  if 0 ≤ a2 then
    fN_nextOrder_b40 a1 a2 1000 (a1 - 1) M
  else
    some M
def fN_nextOrder_b4 (a1 : Int32) : Nat → Int32 → Mem → Option (Mem)
  | 0, _, _ => none
  | z + 1, a2, M =>
    if a2 < 0 then
      fN_nextOrder_b31 a1 a2 M
    else
      if ib a2 5 then
      if ib (a2 + 1) 5 then
      if (M 58 (ix a2)) ≤ (M 58 (ix (a2 + 1))) then
        fN_nextOrder_b31 a1 a2 M
      else
        fN_nextOrder_b4 a1 z (a2 + (-1)) M
      else none
      else none
def fN_nextOrder (a1 : Int32) (M : Mem) : Option (Mem) :=
  fN_nextOrder_b4 a1 1000 (a1 - 2) M
def fN_best_b183 (k65 : Int32 → Int32 → Int32 → Mem → Option (Int32 × Mem)) (a1 : Int32) (a2 : Int32) (a3 : Int32) (a4 : Int32) (a5 : Int32) (a6 : Int32) (a7 : Int32) (M : Mem) : Option (Int32 × Mem) :=
  (fN_nextOrder a3 M).bind fun M8 =>
  k65 a5 a6 (a7 + 1) M8
def fN_best_b175 (k65 : Int32 → Int32 → Int32 → Mem → Option (Int32 × Mem)) (a1 : Int32) (a2 : Int32) (a3 : Int32) (a4 : Int32) (a7 : Int32) (a8 : Int32) (a9 : Int32) (M : Mem) : Option (Int32 × Mem) :=
  fN_best_b183 k65 a1 a2 a3 a4 a9 a8 a7 M
def fN_best_b78 (k65 : Int32 → Int32 → Int32 → Mem → Option (Int32 × Mem)) (a1 : Int32) (a2 : Int32) (a3 : Int32) (a4 : Int32) (a5 : Int32) (a6 : Int32) (a7 : Int32) : Nat → Int32 → Int32 → Mem → Option (Int32 × Mem)
  | 0, _, _, _ => none
  | z + 1, a8, a9, M =>
    if a3 ≤ a9 then
      (fD_run 27 100 M).bind fun M6 =>
      (fD_dear M6).bind fun w7 =>
      if a7 = 0 then
        fN_best_b175 k65 a1 a2 a3 a4 a7 a8 w7.1 w7.2
      else
        if a5 ≤ w7.1 then
          fN_best_b183 k65 a1 a2 a3 a4 a5 a6 a7 w7.2
        else
          fN_best_b175 k65 a1 a2 a3 a4 a7 a8 w7.1 w7.2
    else
      if ib a1 4 then
      if ib a9 5 then
      if ib (M 58 (ix a9)) 5 then
      if ib a1 4 then
      if ib a9 5 then
      fN_best_b78 k65 a1 a2 a3 a4 a5 a6 a7 z (((a8 * 10) + (M ((6 + 2 * ix a1) + 1) (ix (M 58 (ix a9))))) + 1) (a9 + 1) (wr M ((32 + 2 * ix a1) + 1) (ix a9) (M ((6 + 2 * ix a1) + 1) (ix (M 58 (ix a9)))))
      else none
      else none
      else none
      else none
      else none
def fN_best_b65 (a1 : Int32) (a2 : Int32) (a3 : Int32) (a4 : Int32) : Nat → Int32 → Int32 → Int32 → Mem → Option (Int32 × Mem)
  | 0, _, _, _, _ => none
  | z + 1, a5, a6, a7, M =>
    if a4 ≤ a7 then
      if a2 = 0 then
        some (a6, M)
      else
        some (a5, M)
    else
      fN_best_b78 (fN_best_b65 a1 a2 a3 a4 z) a1 a2 a3 a4 a5 a6 a7 1000 0 0 M
def fN_best (a1 : Int32) (a2 : Int32) (M : Mem) : Option (Int32 × Mem) :=
  (fN_within a1 (M 1 2) M).bind fun w1 =>
  if w1.1 = 0 then
    some ((-2), w1.2)
  else
    (fN_within a2 2 w1.2).bind fun w2 =>
    if w2.1 = 0 then
      some ((-2), w2.2)
    else
      if ib a1 4 then
      (fN_firstOrder (w2.2 (6 + 2 * ix a1) 3) w2.2).bind fun w4 =>
      (fH_become 27 1 w4.2).bind fun M5 =>
      fN_best_b65 a1 a2 (w2.2 (6 + 2 * ix a1) 3) w4.1 1000 0 0 0 M5
      else none
def fN_begin_b106 (k44 : Int32 → Int32 → Int32 → Mem → Option (Int32 × Mem)) (a1 : Int32) (a2 : Int32) (a3 : Int32) (a4 : Int32) (a5 : Int32) (M : Mem) : Option (Int32 × Mem) :=
  k44 a3 a4 (a5 + 1) M
def fN_begin_b99 (k44 : Int32 → Int32 → Int32 → Mem → Option (Int32 × Mem)) (a1 : Int32) (a2 : Int32) (a5 : Int32) (a6 : Int32) (M : Mem) : Option (Int32 × Mem) :=
  fN_begin_b106 k44 a1 a2 a6 a5 a5 M
def fN_begin_b44 (a1 : Int32) (a2 : Int32) : Nat → Int32 → Int32 → Int32 → Mem → Option (Int32 × Mem)
  | 0, _, _, _, _ => none
  | z + 1, a3, a4, a5, M =>
    if 8 ≤ a5 then
      if a2 = 0 then
        some (a4, M)
      else
        some (a3, M)
    else
      if ib a1 4 then
      (fD_run 27 100 (wr M (32 + 2 * ix a1) 2 a5)).bind fun M5 =>
      (fD_dear M5).bind fun w6 =>
      if a4 = (-1) then
        fN_begin_b99 (fN_begin_b44 a1 a2 z) a1 a2 a5 w6.1 w6.2
      else
        if a3 ≤ w6.1 then
          fN_begin_b106 (fN_begin_b44 a1 a2 z) a1 a2 a3 a4 a5 w6.2
        else
          fN_begin_b99 (fN_begin_b44 a1 a2 z) a1 a2 a5 w6.1 w6.2
      else none
def fN_begin (a1 : Int32) (a2 : Int32) (M : Mem) : Option (Int32 × Mem) :=
  (fN_within a1 (M 1 2) M).bind fun w1 =>
  if w1.1 = 0 then
    some ((-2), w1.2)
  else
    (fN_within a2 2 w1.2).bind fun w2 =>
    if w2.1 = 0 then
      some ((-2), w2.2)
    else
      (fH_become 27 1 w2.2).bind fun M3 =>
      fN_begin_b44 a1 a2 1000 0 (-1) 0 M3
def fN_home_b103 (k37 : Int32 → Int32 → Int32 → Mem → Option (Int32 × Mem)) (a1 : Int32) (a2 : Int32) (a3 : Int32) (a4 : Int32) (M : Mem) : Option (Int32 × Mem) :=
  k37 a2 a3 (a4 + 1) M
def fN_home_b37 (a1 : Int32) : Nat → Int32 → Int32 → Int32 → Mem → Option (Int32 × Mem)
  | 0, _, _, _, _ => none
  | z + 1, a2, a3, a4, M =>
    if (M 1 2) ≤ a4 then
      if a1 = 0 then
        some (a3, M)
      else
        some (a2, M)
    else
      (fH_become 27 1 M).bind fun M4 =>
      (fH_leaveOut 27 a4 M4).bind fun M5 =>
      (fD_run 27 100 M5).bind fun M6 =>
      (fD_dear M6).bind fun w7 =>
      if a2 ≤ w7.1 then
        fN_home_b103 (fN_home_b37 a1 z) a1 a2 a3 a4 w7.2
      else
        fN_home_b103 (fN_home_b37 a1 z) a1 w7.1 a4 a4 w7.2
def fN_home (a1 : Int32) (M : Mem) : Option (Int32 × Mem) :=
  (fN_within a1 2 M).bind fun w1 =>
  if w1.1 = 0 then
    some ((-2), w1.2)
  else
    (fD_run 1 100 w1.2).bind fun M2 =>
    (fD_dear M2).bind fun w3 =>
    fN_home_b37 a1 1000 w3.1 (-1) 0 w3.2
def fN_stairs (M : Mem) : Option (Int32 × Mem) :=
  (fH_become 27 1 M).bind fun M1 =>
  (fD_run 27 100 (wr M1 27 0 0)).bind fun M2 =>
  (fD_dear M2).bind fun w3 =>
  (fD_run 27 100 (wr w3.2 27 0 3)).bind fun M4 =>
  (fD_dear M4).bind fun w5 =>
  some ((w3.1 - w5.1), w5.2)
def fN_isTold_b2 (q1 : Nat) (a2 : Int32) : Nat → Int32 → Mem → Option (Int32 × Mem)
  | 0, _, _ => none
  | z + 1, a3, M =>
    if (M q1 1) ≤ a3 then
      some (1, M)
    else
      (fH_masterIn 1 (a2 + a3) M).bind fun w1 =>
      if ib a3 40 then
      if w1.1 = (w1.2 (q1 + 1) (ix a3)) then
        fN_isTold_b2 q1 a2 z (a3 + 1) w1.2
      else
        some (0, w1.2)
      else none
def fN_isTold (q1 : Nat) (a2 : Int32) (M : Mem) : Option (Int32 × Mem) :=
  fN_isTold_b2 q1 a2 1000 0 M
def fN_from_b75 (k45 : Int32 → Int32 → Int32 → Mem → Option (Int32 × Mem)) (a2 : Int32) (q3 : Nat) (a4 : Int32) (a5 : Int32) (a6 : Int32) (M : Mem) : Option (Int32 × Mem) :=
  k45 a4 a5 (a6 + 1) M
def fN_from_b45 (a2 : Int32) (q3 : Nat) : Nat → Int32 → Int32 → Int32 → Mem → Option (Int32 × Mem)
  | 0, _, _, _, _ => none
  | z + 1, a4, a5, a6, M =>
    if 100 ≤ a6 then
      if a2 = 0 then
        some (a4, M)
      else
        some (a5, M)
    else
      (fN_isTold q3 a6 M).bind fun w5 =>
      if w5.1 = 0 then
        fN_from_b75 (fN_from_b45 a2 q3 z) a2 q3 a4 a5 a6 w5.2
      else
        if a5 = (-1) then
          fN_from_b75 (fN_from_b45 a2 q3 z) a2 q3 (a4 + 1) a6 a6 w5.2
        else
          fN_from_b75 (fN_from_b45 a2 q3 z) a2 q3 (a4 + 1) a5 a6 w5.2
def fN_from (a1 : Int32) (a2 : Int32) (M : Mem) : Option (Int32 × Mem) :=
  (fN_within a1 4 M).bind fun w1 =>
  if w1.1 = 0 then
    some ((-2), w1.2)
  else
    (fN_within a2 2 w1.2).bind fun w2 =>
    if w2.1 = 0 then
      some ((-2), w2.2)
    else
      if ib a1 4 then
      (fS_isMissing (77 + 2 * ix a1) w2.2).bind fun w4 =>
      if w4.1 = 0 then
        fN_from_b45 a2 (77 + 2 * ix a1) 1000 0 (-1) 0 w4.2
      else
        some ((-11), w4.2)
      else none
def fN_doorChoices (a1 : Int32) (M : Mem) : Option (Int32 × Mem) :=
  if a1 = 1 then
    some (6, M)
  else
  if a1 = 2 then
    some (10, M)
  else
  if a1 = 3 then
    some (8, M)
  else
  if a1 = 4 then
    some ((M 0 6), M)
  else
    some (1, M)
def fN_isSeenFromDoor_b13 (q1 : Nat) (a2 : Int32) : Nat → Int32 → Mem → Option (Int32 × Mem)
  | 0, _, _ => none
  | z + 1, a3, M =>
    if (M q1 1) ≤ a3 then
      some (1, M)
    else
      (fD_pass a3 M).bind fun M2 =>
      if ib a2 4 then
      if ib a3 40 then
      if (M2 50 (ix a2)) = (M2 (q1 + 1) (ix a3)) then
        fN_isSeenFromDoor_b13 q1 a2 z (a3 + 1) M2
      else
        some (0, M2)
      else none
      else none
def fN_isSeenFromDoor (q1 : Nat) (a2 : Int32) (M : Mem) : Option (Int32 × Mem) :=
  (fD_start 27 M).bind fun M1 =>
  fN_isSeenFromDoor_b13 q1 a2 1000 0 M1
def fN_door_b172 (k87 : Int32 → Int32 → Mem → Option (Int32 × Mem)) (a2 : Int32) (a3 : Int32) (q4 : Nat) (q5 : Nat) (a6 : Int32) (a7 : Int32) (a8 : Int32) (M : Mem) : Option (Int32 × Mem) :=
  k87 a7 (a8 + 1) M
def fN_door_b153 (k87 : Int32 → Int32 → Mem → Option (Int32 × Mem)) (a2 : Int32) (a3 : Int32) (q4 : Nat) (q5 : Nat) (a6 : Int32) (a7 : Int32) (a8 : Int32) (M : Mem) : Option (Int32 × Mem) :=
  (fN_isSeenFromDoor q4 a2 M).bind fun w9 =>
  if w9.1 = 0 then
    fN_door_b172 k87 a2 a3 q4 q5 a6 a7 a8 w9.2
  else
    fN_door_b172 k87 a2 a3 q4 q5 a6 (a7 ||| (1 <<< (a8 &&& 31))) a8 w9.2
def fN_door_b87 (a2 : Int32) (a3 : Int32) (q4 : Nat) (q5 : Nat) (a6 : Int32) : Nat → Int32 → Int32 → Mem → Option (Int32 × Mem)
  | 0, _, _, _ => none
  | z + 1, a7, a8, M =>
    if a6 ≤ a8 then
      some (a7, M)
    else
      if a3 = 1 then
        fN_door_b153 (fN_door_b87 a2 a3 q4 q5 a6 z) a2 a3 q4 q5 a6 a7 a8 (wr M q5 0 a8)
      else
        if a3 = 2 then
          fN_door_b153 (fN_door_b87 a2 a3 q4 q5 a6 z) a2 a3 q4 q5 a6 a7 a8 (wr M q5 1 a8)
        else
          if a3 = 3 then
            fN_door_b153 (fN_door_b87 a2 a3 q4 q5 a6 z) a2 a3 q4 q5 a6 a7 a8 (wr M q5 2 a8)
          else
            if a3 = 4 then
              fN_door_b153 (fN_door_b87 a2 a3 q4 q5 a6 z) a2 a3 q4 q5 a6 a7 a8 (wr M 27 3 a8)
            else
              fN_door_b153 (fN_door_b87 a2 a3 q4 q5 a6 z) a2 a3 q4 q5 a6 a7 a8 M
def fN_door (a1 : Int32) (a2 : Int32) (a3 : Int32) (M : Mem) : Option (Int32 × Mem) :=
  (fN_within a1 4 M).bind fun w1 =>
  if w1.1 = 0 then
    some ((-2), w1.2)
  else
    (fN_within a2 (w1.2 1 2) w1.2).bind fun w2 =>
    if w2.1 = 0 then
      some ((-2), w2.2)
    else
      (fN_within a3 5 w2.2).bind fun w3 =>
      if w3.1 = 0 then
        some ((-2), w3.2)
      else
        if ib a1 4 then
        (fS_isMissing (77 + 2 * ix a1) w3.2).bind fun w5 =>
        if w5.1 = 0 then
          (fH_become 27 1 w5.2).bind fun M6 =>
          if ib a2 4 then
          (fN_doorChoices a3 M6).bind fun w8 =>
          fN_door_b87 a2 a3 (77 + 2 * ix a1) (32 + 2 * ix a2) w8.1 1000 0 0 w8.2
          else none
        else
          some ((-11), w5.2)
        else none
def fN_film_b111 (k66 : Int32 → Mem → Option (Int32 × Mem)) (a2 : Int32) (a3 : Int32) (q4 : Nat) (a5 : Int32) (s0 : Int32) (s1 : Int32) (t2 : Nat) (M : Mem) : Option (Int32 × Mem) :=
  (fS_put t2 s1 s0 M).bind fun M7 =>
  k66 (a5 + 1) M7
def fN_film_b66 (a2 : Int32) (a3 : Int32) (q4 : Nat) : Nat → Int32 → Mem → Option (Int32 × Mem)
  | 0, _, _ => none
  | z + 1, a5, M =>
    if a3 ≤ a5 then
      some (a3, M)
    else
      (fD_pass a5 M).bind fun M5 =>
      if a2 = (-1) then
        (fH_masterIn 1 a5 M5).bind fun w6 =>
        fN_film_b111 (fN_film_b66 a2 a3 q4 z) a2 a3 q4 a5 w6.1 a5 q4 w6.2
      else
        if ib a2 4 then
        fN_film_b111 (fN_film_b66 a2 a3 q4 z) a2 a3 q4 a5 (M5 50 (ix a2)) a5 q4 M5
        else none
def fN_film (a1 : Int32) (a2 : Int32) (a3 : Int32) (M : Mem) : Option (Int32 × Mem) :=
  (fN_within a1 4 M).bind fun w1 =>
  if w1.1 = 0 then
    some ((-2), w1.2)
  else
    if a2 < (-1) then
      some ((-2), w1.2)
    else
      if (w1.2 1 2) ≤ a2 then
        some ((-2), w1.2)
      else
        if a3 < 0 then
          some ((-2), w1.2)
        else
          if a3 ≤ 40 then
            if ib a1 4 then
            (fS_become (77 + 2 * ix a1) 0 a3 w1.2).bind fun M3 =>
            (fD_start 1 M3).bind fun M4 =>
            fN_film_b66 a2 a3 (77 + 2 * ix a1) 1000 0 M4
            else none
          else
            some ((-2), w1.2)
def fN_drawn (a1 : Int32) (M : Mem) : Option (Int32 × Mem) :=
  (fH_become 27 1 M).bind fun M1 =>
  (fH_draw 27 a1 M1).bind fun M2 =>
  (fD_run 27 100 M2).bind fun M3 =>
  (fD_dear M3).bind fun w4 =>
  some (w4.1, w4.2)
def fN_inLowestTerms_b28 (a3 : Int32) (s0 : Int32) (M : Mem) : Option (Int32 × Mem) :=
  if a3 = 0 then none else
  some ((s0 / a3), M)
def fN_inLowestTerms_b31 (k2 : Int32 → Mem → Option (Int32 × Mem)) (a0 : Int32) (a1 : Int32) (a2 : Int32) (a3 : Int32) (M : Mem) : Option (Int32 × Mem) :=
  k2 (a3 + (-1)) M
def fN_inLowestTerms_b2 (a0 : Int32) (a1 : Int32) (a2 : Int32) : Nat → Int32 → Mem → Option (Int32 × Mem)
  | 0, _, _ => none
  | z + 1, a3, M =>
    if a3 ≤ 1 then
      if a2 = 0 then
        some (a0, M)
      else
        some (a1, M)
    else
      if a3 = 0 then none else
      if (a0 - a0 / a3 * a3) = 0 then
        if a3 = 0 then none else
        if (a1 - a1 / a3 * a3) = 0 then
          if a2 = 0 then
            fN_inLowestTerms_b28 a3 a0 M
          else
            fN_inLowestTerms_b28 a3 a1 M
        else
          fN_inLowestTerms_b31 (fN_inLowestTerms_b2 a0 a1 a2 z) a0 a1 a2 a3 M
      else
        fN_inLowestTerms_b31 (fN_inLowestTerms_b2 a0 a1 a2 z) a0 a1 a2 a3 M
def fN_inLowestTerms (a0 : Int32) (a1 : Int32) (a2 : Int32) (M : Mem) : Option (Int32 × Mem) :=
  fN_inLowestTerms_b2 a0 a1 a2 1000 a1 M
def fN_chance_b19 (M : Mem) : Option (Int64 × Mem) :=
  some ((-4611686018427387904 : Int64), M)
def fN_chance_b83 (k40 : Int32 → Int32 → Mem → Option (Int64 × Mem)) (a1 : Int32) (a2 : Int32) (a3 : Int32) (a4 : Int32) (a5 : Int32) (M : Mem) : Option (Int64 × Mem) :=
  k40 a4 (a5 + 1) M
def fN_chance_b40 (a1 : Int32) (a2 : Int32) (a3 : Int32) : Nat → Int32 → Int32 → Mem → Option (Int64 × Mem)
  | 0, _, _, _ => none
  | z + 1, a4, a5, M =>
    if a2 ≤ a5 then
      (fN_inLowestTerms a4 a2 a3 M).bind fun w3 =>
      some ((w3.1.toInt64), w3.2)
    else
      (fH_draw 27 (a1 + a5) M).bind fun M4 =>
      (fD_run 27 100 M4).bind fun M5 =>
      (fD_isAnySeen M5).bind fun w6 =>
      if w6.1 = 0 then
        fN_chance_b83 (fN_chance_b40 a1 a2 a3 z) a1 a2 a3 (a4 + 1) a5 w6.2
      else
        fN_chance_b83 (fN_chance_b40 a1 a2 a3 z) a1 a2 a3 a4 a5 w6.2
def fN_chance (a1 : Int32) (a2 : Int32) (a3 : Int32) (M : Mem) : Option (Int64 × Mem) :=
  if a2 < 1 then
    fN_chance_b19 M
  else
    if 20 < a2 then
      fN_chance_b19 M
    else
      (fN_within a3 2 M).bind fun w1 =>
      if w1.1 = 0 then
        fN_chance_b19 w1.2
      else
        (fH_become 27 1 w1.2).bind fun M2 =>
        fN_chance_b40 a1 a2 a3 1000 0 0 M2
def fN_image (M : Mem) : Option (Int32 × Mem) :=
  (fH_become 14 1 M).bind fun M1 =>
  some (((wr M1 0 3 1) 14 2), (wr M1 0 3 1))
def fN_back (M : Mem) : Option (Int32 × Mem) :=
  if (M 0 3) = 0 then
    some ((-3), M)
  else
    (fH_become 1 14 M).bind fun M1 =>
    some ((M1 1 2), M1)
def fN_count (a1 : Int32) (M : Mem) : Option (Int32 × Mem) :=
  if a1 = 0 then
    some ((M 1 2), M)
  else
  if a1 = 1 then
    some ((M 1 1), M)
  else
  if a1 = 2 then
    some ((M 1 0), M)
  else
  if a1 = 3 then
    some ((M 0 6), M)
  else
  if a1 = 4 then
    some ((M 40 1), M)
  else
  if a1 = 5 then
    some ((M 1 3), M)
  else
  if a1 = 6 then
    (fN_sum 4 M).bind fun w7 =>
    some (w7.1, w7.2)
  else
    some ((-2), M)
def fN_sheet (a1 : Int32) (a2 : Int32) (a3 : Int32) (M : Mem) : Option (Int32 × Mem) :=
  (fN_within a1 4 M).bind fun w1 =>
  if w1.1 = 0 then
    some ((-2), w1.2)
  else
    if a2 < (-1) then
      some ((-2), w1.2)
    else
      if a2 < 3 then
        if a2 = (-1) then
          if ib a1 4 then
          (fS_become (77 + 2 * ix a1) (-1) 0 w1.2).bind fun M3 =>
          some (1, M3)
          else none
        else
          if a3 ≤ 40 then
            if 0 ≤ a3 then
              if ib a1 4 then
              (fS_become (77 + 2 * ix a1) a2 a3 w1.2).bind fun M5 =>
              some (1, M5)
              else none
            else
              some ((-14), w1.2)
          else
            some ((-2), w1.2)
      else
        some ((-2), w1.2)
def fN_cell (a1 : Int32) (a2 : Int32) (a3 : Int32) (M : Mem) : Option (Int32 × Mem) :=
  (fN_within a1 4 M).bind fun w1 =>
  if w1.1 = 0 then
    some ((-2), w1.2)
  else
    if ib a1 4 then
    (fS_isMissing (77 + 2 * ix a1) w1.2).bind fun w3 =>
    if w3.1 = 0 then
      (fN_within a2 (w3.2 (77 + 2 * ix a1) 1) w3.2).bind fun w4 =>
      if w4.1 = 0 then
        some ((-12), w4.2)
      else
        (fS_put (77 + 2 * ix a1) a2 a3 w4.2).bind fun M5 =>
        some (1, M5)
    else
      some ((-11), w3.2)
    else none
def fN_copy (a1 : Int32) (a2 : Int32) (a3 : Int32) (a4 : Int32) (a5 : Int32) (M : Mem) : Option (Int32 × Mem) :=
  (fN_within a1 4 M).bind fun w1 =>
  if w1.1 = 0 then
    some ((-2), w1.2)
  else
    (fN_within a3 4 w1.2).bind fun w2 =>
    if w2.1 = 0 then
      some ((-2), w2.2)
    else
      if ib a1 4 then
      if ib a3 4 then
      (fS_isMissing (77 + 2 * ix a1) w2.2).bind fun w5 =>
      if w5.1 = 0 then
        (fS_isMissing (77 + 2 * ix a3) w5.2).bind fun w6 =>
        if w6.1 = 0 then
          if (w6.2 (77 + 2 * ix a1) 0) = (w6.2 (77 + 2 * ix a3) 0) then
            (fS_has (77 + 2 * ix a1) a2 a5 w6.2).bind fun w7 =>
            if w7.1 = 0 then
              some ((-12), w7.2)
            else
              (fS_has (77 + 2 * ix a3) a4 a5 w7.2).bind fun w8 =>
              if w8.1 = 0 then
                some ((-12), w8.2)
              else
                if 0 ≤ a2.toInt ∧ 0 ≤ a4.toInt ∧ 0 ≤ a5.toInt ∧ a2.toInt + a5.toInt ≤ 40 ∧ a4.toInt + a5.toInt ≤ 40 then
                some (a5, (wrR w8.2 ((77 + 2 * ix a3) + 1) (va_cpy (w8.2 ((77 + 2 * ix a1) + 1)) (w8.2 ((77 + 2 * ix a3) + 1)) (ix a2) (ix a4) (ix a5))))
                else none
          else
            some ((-13), w6.2)
        else
          some ((-11), w6.2)
      else
        some ((-11), w5.2)
      else none
      else none
def fN_maids_b138 (k67 : Int32 → Int32 → Mem → Option (Int32 × Mem)) (a3 : Int32) (a4 : Int32) (q5 : Nat) (a6 : Int32) (a7 : Int32) (M : Mem) : Option (Int32 × Mem) :=
  k67 a6 (a7 + 1) M
def fN_maids_b67 (a3 : Int32) (a4 : Int32) (q5 : Nat) : Nat → Int32 → Int32 → Mem → Option (Int32 × Mem)
  | 0, _, _, _ => none
  | z + 1, a6, a7, M =>
    if a4 ≤ a7 then
      some (a6, M)
    else
      (fS_has q5 a3 ((3 * a7) + 3) M).bind fun w5 =>
      if w5.1 = 0 then
        some ((-12), w5.2)
      else
        if ib (a3 + (3 * a7)) 40 then
        if ib ((a3 + (3 * a7)) + 1) 40 then
        if ib ((a3 + (3 * a7)) + 2) 40 then
        (fN_maid (w5.2 (q5 + 1) (ix (a3 + (3 * a7)))) (w5.2 (q5 + 1) (ix ((a3 + (3 * a7)) + 1))) (w5.2 (q5 + 1) (ix ((a3 + (3 * a7)) + 2))) w5.2).bind fun w6 =>
        if w6.1 < 0 then
          fN_maids_b138 (fN_maids_b67 a3 a4 q5 z) a3 a4 q5 a6 a7 w6.2
        else
          fN_maids_b138 (fN_maids_b67 a3 a4 q5 z) a3 a4 q5 (a6 + 1) a7 w6.2
        else none
        else none
        else none
def fN_maids (a1 : Int32) (a2 : Int32) (a3 : Int32) (a4 : Int32) (M : Mem) : Option (Int32 × Mem) :=
  (fN_within a1 4 M).bind fun w1 =>
  if w1.1 = 0 then
    some ((-2), w1.2)
  else
    (fN_within a2 3 w1.2).bind fun w2 =>
    if w2.1 = 0 then
      some ((-2), w2.2)
    else
      if a4 < 0 then
        some ((-2), w2.2)
      else
        if a4 ≤ 4 then
          if ib a1 4 then
          (fS_isMissing (77 + 2 * ix a1) w2.2).bind fun w4 =>
          if w4.1 = 0 then
            if (w4.2 (77 + 2 * ix a1) 0) = a2 then
              fN_maids_b67 a3 a4 (77 + 2 * ix a1) 1000 0 0 w4.2
            else
              some ((-13), w4.2)
          else
            some ((-11), w4.2)
          else none
        else
          some ((-2), w2.2)
def fN_taken (a1 : Int32) (a2 : Int32) (M : Mem) : Option (Int32 × Mem) :=
  (fN_within a2 6 M).bind fun w1 =>
  if w1.1 = 0 then
    some ((-2), w1.2)
  else
    (fN_within a1 (w1.2 1 2) w1.2).bind fun w2 =>
    if w2.1 = 0 then
      some ((-11), w2.2)
    else
      if ib a1 4 then
      (fA_isOfKind (6 + 2 * ix a1) a2 w2.2).bind fun w4 =>
      if w4.1 = 0 then
        some ((-13), w4.2)
      else
        if ib a1 4 then
        some ((w4.2 (6 + 2 * ix a1) 1), w4.2)
        else none
      else none
def fM_in (a0 : Int64) (a2 : Int64) (a4 : Int64) (M : Mem) : Option (Int32 × Mem) :=
  if (lg_cmp a0 a2) < 0 then
    some (0, M)
  else
    if 0 < (lg_cmp a0 a4) then
      some (0, M)
    else
      some (1, M)
def fM_within (a0 : Int32) (a1 : Int32) (a2 : Int32) (M : Mem) : Option (Int32 × Mem) :=
  if a1 ≤ a0 then
    if a0 ≤ a2 then
      some (a0, M)
    else
      some (a2, M)
  else
    some (a1, M)
def fM_spell (a1 : Int32) (a2 : Int32) (a3 : Int32) (a4 : Int32) (a5 : Int32) (a6 : Int32) (a7 : Int32) (a8 : Int32) (a9 : Int32) (M : Mem) : Option (Mem) :=
  if ib a1 960 then
  if ib (a1 + 1) 960 then
  if ib (a1 + 2) 960 then
  if ib (a1 + 3) 960 then
  if ib (a1 + 4) 960 then
  if ib (a1 + 5) 960 then
  if ib (a1 + 6) 960 then
  if ib (a1 + 7) 960 then
  some (wr (wr (wr (wr (wr (wr (wr (wr M 86 (ix a1) a2) 86 (ix (a1 + 1)) a3) 86 (ix (a1 + 2)) a4) 86 (ix (a1 + 3)) a5) 86 (ix (a1 + 4)) a6) 86 (ix (a1 + 5)) a7) 86 (ix (a1 + 6)) a8) 86 (ix (a1 + 7)) a9)
  else none
  else none
  else none
  else none
  else none
  else none
  else none
  else none
def fM_isRoom (a0 : Int32) (M : Mem) : Option (Int32 × Mem) :=
  (fM_in (a0.toInt64) (0 : Int64) (7 : Int64) M).bind fun w1 =>
  if w1.1 = 0 ∨ w1.1 = 1 then some (w1.1, w1.2) else none
def fM_isMaid (a1 : Int32) (M : Mem) : Option (Int32 × Mem) :=
  (fM_in (a1.toInt64) (0 : Int64) (((M 85 17) - 1).toInt64) M).bind fun w1 =>
  if w1.1 = 0 ∨ w1.1 = 1 then some (w1.1, w1.2) else none
def fM_isStay (a1 : Int32) (M : Mem) : Option (Int32 × Mem) :=
  (fM_in (a1.toInt64) (0 : Int64) (((M 85 11) - 1).toInt64) M).bind fun w1 =>
  if w1.1 = 0 ∨ w1.1 = 1 then some (w1.1, w1.2) else none
def fM_isOf_b43 (M : Mem) : Option (Int32 × Mem) :=
  some (1, M)
def fM_isOf (a1 : Int32) (a2 : Int32) (M : Mem) : Option (Int32 × Mem) :=
  if a1 = 0 then
    fM_isOf_b43 M
  else
    if a1 = 1 then
      (fM_isRoom a2 M).bind fun w1 =>
      if w1.1 = 0 then
        some (0, w1.2)
      else
        fM_isOf_b43 w1.2
    else
      if 4 ≤ a1 then
        (fM_isMaid a2 M).bind fun w2 =>
        if w2.1 = 0 then
          some (0, w2.2)
        else
          fM_isOf_b43 w2.2
      else
        (fM_isStay a2 M).bind fun w3 =>
        if w3.1 = 0 then
          some (0, w3.2)
        else
          fM_isOf_b43 w3.2
def fM_lays (a1 : Int32) (a2 : Int32) (a3 : Int32) (M : Mem) : Option (Mem) :=
  if a1 = 0 then
    some (wr M 85 7 a3)
  else
    if a1 = 1 then
      if ib a2 8 then
      some (wr M 89 (ix a2) a3)
      else none
    else
      if a1 = 2 then
        if ib a2 8 then
        some (wr M 90 (ix a2) a3)
        else none
      else
        if a1 = 3 then
          if ib a2 8 then
          some (wr M 91 (ix a2) a3)
          else none
        else
          if a1 = 4 then
            if ib a2 4 then
            some (wr M 93 (ix a2) a3)
            else none
          else
            if ib a2 4 then
            some (wr M 94 (ix a2) a3)
            else none
def fM_told_b26 (a1 : Int32) (a2 : Int32) (M : Mem) : Option (Int32 × Mem) :=
  (fM_isOf a2 a1 M).bind fun w3 =>
  if w3.1 = 0 then
    some ((-2), w3.2)
  else
    if 4 ≤ a2 then
      if 8 ≤ a2 then
        if ib a1 4 then
        if (w3.2 96 (ix a1)) ≤ (a2 - 10) then
          some ((-1), w3.2)
        else
          if ib (((5 * a1) + a2) - 10) 20 then
          some ((w3.2 95 (ix (((5 * a1) + a2) - 10))), w3.2)
          else none
        else none
      else
        if a2 = 4 then
          if ib a1 4 then
          some ((w3.2 93 (ix a1)), w3.2)
          else none
        else
          if a2 = 5 then
            if ib a1 4 then
            some ((w3.2 94 (ix a1)), w3.2)
            else none
          else
            if a2 = 6 then
              if ib a1 4 then
              some ((w3.2 92 (ix a1)), w3.2)
              else none
            else
              if ib a1 4 then
              some ((w3.2 96 (ix a1)), w3.2)
              else none
    else
      if a2 = 0 then
        some ((w3.2 85 7), w3.2)
      else
        if a2 = 1 then
          if ib a1 8 then
          some ((w3.2 89 (ix a1)), w3.2)
          else none
        else
          if a2 = 2 then
            if ib a1 8 then
            some ((w3.2 90 (ix a1)), w3.2)
            else none
          else
            if ib a1 8 then
            some ((w3.2 91 (ix a1)), w3.2)
            else none
def fM_told (a1 : Int32) (a2 : Int32) (M : Mem) : Option (Int32 × Mem) :=
  (fM_in (a2.toInt64) (0 : Int64) (7 : Int64) M).bind fun w1 =>
  if w1.1 = 0 then
    (fM_in (a2.toInt64) (10 : Int64) (14 : Int64) w1.2).bind fun w2 =>
    if w2.1 = 0 then
      some ((-2), w2.2)
    else
      fM_told_b26 a1 a2 w2.2
  else
    fM_told_b26 a1 a2 w1.2
def fM_set_b82 (a1 : Int32) (a2 : Int32) (a3 : Int32) (s0 : Int64) (s1 : Int64) (s2 : Int64) (M : Mem) : Option (Int32 × Mem) :=
  (fM_in s2 s1 s0 M).bind fun w3 =>
  if w3.1 = 0 then
    some ((-2), w3.2)
  else
    (fM_told a2 a1 w3.2).bind fun w4 =>
    (fM_lays a1 a2 a3 w4.2).bind fun M5 =>
    some (w4.1, M5)
def fM_set_b36 (a1 : Int32) (a2 : Int32) (a3 : Int32) (s0 : Int64) (s1 : Int64) (M : Mem) : Option (Int32 × Mem) :=
  if a1 = 0 then
    fM_set_b82 a1 a2 a3 (3 : Int64) s0 s1 M
  else
    if a1 = 1 then
      fM_set_b82 a1 a2 a3 (99 : Int64) s0 s1 M
    else
      if a1 = 3 then
        fM_set_b82 a1 a2 a3 (50 : Int64) s0 s1 M
      else
        if a1 = 4 then
          fM_set_b82 a1 a2 a3 (9 : Int64) s0 s1 M
        else
          fM_set_b82 a1 a2 a3 (7 : Int64) s0 s1 M
def fM_set (a1 : Int32) (a2 : Int32) (a3 : Int32) (M : Mem) : Option (Int32 × Mem) :=
  (fM_in (a1.toInt64) (0 : Int64) (5 : Int64) M).bind fun w1 =>
  if w1.1 = 0 then
    some ((-2), w1.2)
  else
    (fM_isOf a1 a2 w1.2).bind fun w2 =>
    if w2.1 = 0 then
      some ((-2), w2.2)
    else
      if a1 = 3 then
        fM_set_b36 a1 a2 a3 (1 : Int64) (a3.toInt64) w2.2
      else
        fM_set_b36 a1 a2 a3 (0 : Int64) (a3.toInt64) w2.2
def fM_stay (a1 : Int32) (a2 : Int32) (M : Mem) : Option (Int32 × Mem) :=
  (fM_isRoom a1 M).bind fun w1 =>
  if w1.1 = 0 then
    some ((-2), w1.2)
  else
    (fM_in (a2.toInt64) (1 : Int64) (50 : Int64) w1.2).bind fun w2 =>
    if w2.1 = 0 then
      some ((-2), w2.2)
    else
      if (w2.2 85 11) = 8 then
        some ((-4), w2.2)
      else
        if ib (w2.2 85 11) 8 then
        if ib ((wr w2.2 90 (ix (w2.2 85 11)) a1) 85 11) 8 then
        some (((wr (wr (wr w2.2 90 (ix (w2.2 85 11)) a1) 91 (ix ((wr w2.2 90 (ix (w2.2 85 11)) a1) 85 11)) a2) 85 11 (((wr (wr w2.2 90 (ix (w2.2 85 11)) a1) 91 (ix ((wr w2.2 90 (ix (w2.2 85 11)) a1) 85 11)) a2) 85 11) + 1)) 85 11), (wr (wr (wr w2.2 90 (ix (w2.2 85 11)) a1) 91 (ix ((wr w2.2 90 (ix (w2.2 85 11)) a1) 85 11)) a2) 85 11 (((wr (wr w2.2 90 (ix (w2.2 85 11)) a1) 91 (ix ((wr w2.2 90 (ix (w2.2 85 11)) a1) 85 11)) a2) 85 11) + 1)))
        else none
        else none
def fM_maid (a1 : Int32) (a2 : Int32) (a3 : Int32) (M : Mem) : Option (Int32 × Mem) :=
  (fM_in (a1.toInt64) (0 : Int64) (5 : Int64) M).bind fun w1 =>
  if w1.1 = 0 then
    some ((-2), w1.2)
  else
    (fM_in (a2.toInt64) (0 : Int64) (9 : Int64) w1.2).bind fun w2 =>
    if w2.1 = 0 then
      some ((-2), w2.2)
    else
      (fM_isRoom a3 w2.2).bind fun w3 =>
      if w3.1 = 0 then
        some ((-2), w3.2)
      else
        if (w3.2 85 17) = 4 then
          some ((-4), w3.2)
        else
          if ib (w3.2 85 17) 4 then
          if ib ((wr w3.2 92 (ix (w3.2 85 17)) a1) 85 17) 4 then
          if ib ((wr (wr w3.2 92 (ix (w3.2 85 17)) a1) 93 (ix ((wr w3.2 92 (ix (w3.2 85 17)) a1) 85 17)) a2) 85 17) 4 then
          if ib ((wr (wr (wr w3.2 92 (ix (w3.2 85 17)) a1) 93 (ix ((wr w3.2 92 (ix (w3.2 85 17)) a1) 85 17)) a2) 94 (ix ((wr (wr w3.2 92 (ix (w3.2 85 17)) a1) 93 (ix ((wr w3.2 92 (ix (w3.2 85 17)) a1) 85 17)) a2) 85 17)) a3) 85 17) 4 then
          some ((((wr (wr (wr (wr (wr w3.2 92 (ix (w3.2 85 17)) a1) 93 (ix ((wr w3.2 92 (ix (w3.2 85 17)) a1) 85 17)) a2) 94 (ix ((wr (wr w3.2 92 (ix (w3.2 85 17)) a1) 93 (ix ((wr w3.2 92 (ix (w3.2 85 17)) a1) 85 17)) a2) 85 17)) a3) 96 (ix ((wr (wr (wr w3.2 92 (ix (w3.2 85 17)) a1) 93 (ix ((wr w3.2 92 (ix (w3.2 85 17)) a1) 85 17)) a2) 94 (ix ((wr (wr w3.2 92 (ix (w3.2 85 17)) a1) 93 (ix ((wr w3.2 92 (ix (w3.2 85 17)) a1) 85 17)) a2) 85 17)) a3) 85 17)) 0) 85 17 (((wr (wr (wr (wr w3.2 92 (ix (w3.2 85 17)) a1) 93 (ix ((wr w3.2 92 (ix (w3.2 85 17)) a1) 85 17)) a2) 94 (ix ((wr (wr w3.2 92 (ix (w3.2 85 17)) a1) 93 (ix ((wr w3.2 92 (ix (w3.2 85 17)) a1) 85 17)) a2) 85 17)) a3) 96 (ix ((wr (wr (wr w3.2 92 (ix (w3.2 85 17)) a1) 93 (ix ((wr w3.2 92 (ix (w3.2 85 17)) a1) 85 17)) a2) 94 (ix ((wr (wr w3.2 92 (ix (w3.2 85 17)) a1) 93 (ix ((wr w3.2 92 (ix (w3.2 85 17)) a1) 85 17)) a2) 85 17)) a3) 85 17)) 0) 85 17) + 1)) 85 17) - 1), (wr (wr (wr (wr (wr w3.2 92 (ix (w3.2 85 17)) a1) 93 (ix ((wr w3.2 92 (ix (w3.2 85 17)) a1) 85 17)) a2) 94 (ix ((wr (wr w3.2 92 (ix (w3.2 85 17)) a1) 93 (ix ((wr w3.2 92 (ix (w3.2 85 17)) a1) 85 17)) a2) 85 17)) a3) 96 (ix ((wr (wr (wr w3.2 92 (ix (w3.2 85 17)) a1) 93 (ix ((wr w3.2 92 (ix (w3.2 85 17)) a1) 85 17)) a2) 94 (ix ((wr (wr w3.2 92 (ix (w3.2 85 17)) a1) 93 (ix ((wr w3.2 92 (ix (w3.2 85 17)) a1) 85 17)) a2) 85 17)) a3) 85 17)) 0) 85 17 (((wr (wr (wr (wr w3.2 92 (ix (w3.2 85 17)) a1) 93 (ix ((wr w3.2 92 (ix (w3.2 85 17)) a1) 85 17)) a2) 94 (ix ((wr (wr w3.2 92 (ix (w3.2 85 17)) a1) 93 (ix ((wr w3.2 92 (ix (w3.2 85 17)) a1) 85 17)) a2) 85 17)) a3) 96 (ix ((wr (wr (wr w3.2 92 (ix (w3.2 85 17)) a1) 93 (ix ((wr w3.2 92 (ix (w3.2 85 17)) a1) 85 17)) a2) 94 (ix ((wr (wr w3.2 92 (ix (w3.2 85 17)) a1) 93 (ix ((wr w3.2 92 (ix (w3.2 85 17)) a1) 85 17)) a2) 85 17)) a3) 85 17)) 0) 85 17) + 1)))
          else none
          else none
          else none
          else none
def fM_list (a1 : Int32) (a2 : Int32) (M : Mem) : Option (Int32 × Mem) :=
  (fM_isMaid a1 M).bind fun w1 =>
  if w1.1 = 0 then
    some ((-2), w1.2)
  else
    (fM_isRoom a2 w1.2).bind fun w2 =>
    if w2.1 = 0 then
      some ((-2), w2.2)
    else
      if ib a1 4 then
      if (w2.2 96 (ix a1)) = 5 then
        some ((-4), w2.2)
      else
        if ib a1 4 then
        if ib ((5 * a1) + (w2.2 96 (ix a1))) 20 then
        if ib a1 4 then
        if ib a1 4 then
        if ib a1 4 then
        some (((wr (wr w2.2 95 (ix ((5 * a1) + (w2.2 96 (ix a1)))) a2) 96 (ix a1) (((wr w2.2 95 (ix ((5 * a1) + (w2.2 96 (ix a1)))) a2) 96 (ix a1)) + 1)) 96 (ix a1)), (wr (wr w2.2 95 (ix ((5 * a1) + (w2.2 96 (ix a1)))) a2) 96 (ix a1) (((wr w2.2 95 (ix ((5 * a1) + (w2.2 96 (ix a1)))) a2) 96 (ix a1)) + 1)))
        else none
        else none
        else none
        else none
        else none
      else none
def fM_clear (a1 : Int32) (M : Mem) : Option (Int32 × Mem) :=
  (fM_isMaid a1 M).bind fun w1 =>
  if w1.1 = 0 then
    some ((-2), w1.2)
  else
    if ib a1 4 then
    if ib a1 4 then
    some ((w1.2 96 (ix a1)), (wr w1.2 96 (ix a1) 0))
    else none
    else none
def fM_isBeside_b77 (M : Mem) : Option (Int32 × Mem) :=
  some (1, M)
def fM_isBeside_b64 (a3 : Int32) (M : Mem) : Option (Int32 × Mem) :=
  if a3 = 3 then
    if (M 85 7) ≤ 1 then
      some (0, M)
    else
      fM_isBeside_b77 M
  else
    some (0, M)
def fM_isBeside_b21 (a3 : Int32) (s0 : Int32) (M : Mem) : Option (Int32 × Mem) :=
  if (s0 - a3) = 1 then
    if a3 = 3 then
      some (0, M)
    else
      some (1, M)
  else
    if (s0 - a3) = 4 then
      if a3 = 0 then
        if ((M 85 7) - (M 85 7) / 2 * 2) = 1 then
          fM_isBeside_b77 M
        else
          fM_isBeside_b64 a3 M
      else
        fM_isBeside_b64 a3 M
    else
      some (0, M)
def fM_isBeside_b10 (a1 : Int32) (a2 : Int32) (s0 : Int32) (M : Mem) : Option (Int32 × Mem) :=
  if a2 ≤ a1 then
    fM_isBeside_b21 s0 a1 M
  else
    fM_isBeside_b21 s0 a2 M
def fM_isBeside (a1 : Int32) (a2 : Int32) (M : Mem) : Option (Int32 × Mem) :=
  if a2 ≤ a1 then
    fM_isBeside_b10 a1 a2 a2 M
  else
    fM_isBeside_b10 a1 a2 a1 M
def fM_gathers_b141 (k65 : Int32 → Mem → Option (Mem)) (k73 : Int32 → Mem → Option (Mem)) (k81 : Int32 → Mem → Option (Mem)) (a1 : Int32) (a2 : Int32) (a3 : Int32) (M : Mem) : Option (Mem) :=
  k81 (a3 + 1) M
def fM_gathers_b81 (k65 : Int32 → Mem → Option (Mem)) (k73 : Int32 → Mem → Option (Mem)) (a1 : Int32) (a2 : Int32) : Nat → Int32 → Mem → Option (Mem)
  | 0, _, _ => none
  | z + 1, a3, M =>
    if 8 ≤ a3 then
      k73 (a2 + 1) M
    else
      if ib ((8 * a2) + a1) 64 then
      if ib ((8 * a1) + a3) 64 then
      if ib ((8 * a2) + a3) 64 then
      if (M 97 (ix ((8 * a2) + a3))) ≤ ((M 97 (ix ((8 * a2) + a1))) + (M 97 (ix ((8 * a1) + a3)))) then
        fM_gathers_b141 k65 k73 (fM_gathers_b81 k65 k73 a1 a2 z) a1 a2 a3 M
      else
        if ib ((8 * a2) + a3) 64 then
        fM_gathers_b141 k65 k73 (fM_gathers_b81 k65 k73 a1 a2 z) a1 a2 a3 (wr M 97 (ix ((8 * a2) + a3)) ((M 97 (ix ((8 * a2) + a1))) + (M 97 (ix ((8 * a1) + a3)))))
        else none
      else none
      else none
      else none
def fM_gathers_b73 (k65 : Int32 → Mem → Option (Mem)) (a1 : Int32) : Nat → Int32 → Mem → Option (Mem)
  | 0, _, _ => none
  | z + 1, a2, M =>
    if 8 ≤ a2 then
      k65 (a1 + 1) M
    else
      fM_gathers_b81 k65 (fM_gathers_b73 k65 a1 z) a1 a2 1000 0 M
def fM_gathers_b65 : Nat → Int32 → Mem → Option (Mem)
  | 0, _, _ => none
  | z + 1, a1, M =>
    if 8 ≤ a1 then
      some M
    else
      fM_gathers_b73 (fM_gathers_b65 z) a1 1000 0 M
def fM_gathers_b50 (k2 : Int32 → Mem → Option (Mem)) (k10 : Int32 → Mem → Option (Mem)) (a1 : Int32) (a2 : Int32) (s0 : Int32) (s1 : Int32) (M : Mem) : Option (Mem) :=
  if ib s1 64 then
  k10 (a2 + 1) (wr M 97 (ix s1) s0)
  else none
def fM_gathers_b10 (k2 : Int32 → Mem → Option (Mem)) (a1 : Int32) : Nat → Int32 → Mem → Option (Mem)
  | 0, _, _ => none
  | z + 1, a2, M =>
    if 8 ≤ a2 then
      k2 (a1 + 1) M
    else
      if a1 = a2 then
        fM_gathers_b50 k2 (fM_gathers_b10 k2 a1 z) a1 a2 0 ((8 * a1) + a2) M
      else
        (fM_isBeside a1 a2 M).bind fun w1 =>
        if w1.1 = 0 then
          fM_gathers_b50 k2 (fM_gathers_b10 k2 a1 z) a1 a2 8 ((8 * a1) + a2) w1.2
        else
          fM_gathers_b50 k2 (fM_gathers_b10 k2 a1 z) a1 a2 1 ((8 * a1) + a2) w1.2
def fM_gathers_b2 : Nat → Int32 → Mem → Option (Mem)
  | 0, _, _ => none
  | z + 1, a1, M =>
    if 8 ≤ a1 then
      fM_gathers_b65 1000 0 M
    else
      fM_gathers_b10 (fM_gathers_b2 z) a1 1000 0 M
def fM_gathers (M : Mem) : Option (Mem) :=
  fM_gathers_b2 1000 0 M
def fM_nextTo_b79 (k28 : Int32 → Int32 → Mem → Option (Int32 × Mem)) (a1 : Int32) (a2 : Int32) (a3 : Int32) (a4 : Int32) (M : Mem) : Option (Int32 × Mem) :=
  k28 a3 (a4 + 1) M
def fM_nextTo_b76 (k28 : Int32 → Int32 → Mem → Option (Int32 × Mem)) (a1 : Int32) (a2 : Int32) (a4 : Int32) (M : Mem) : Option (Int32 × Mem) :=
  fM_nextTo_b79 k28 a1 a2 a4 a4 M
def fM_nextTo_b28 (a1 : Int32) (a2 : Int32) : Nat → Int32 → Int32 → Mem → Option (Int32 × Mem)
  | 0, _, _, _ => none
  | z + 1, a3, a4, M =>
    if 8 ≤ a4 then
      some (a3, M)
    else
      (fM_isBeside a1 a4 M).bind fun w1 =>
      if w1.1 = 0 then
        fM_nextTo_b79 (fM_nextTo_b28 a1 a2 z) a1 a2 a3 a4 w1.2
      else
        if a3 = (-1) then
          fM_nextTo_b76 (fM_nextTo_b28 a1 a2 z) a1 a2 a4 w1.2
        else
          if ib ((8 * a4) + a2) 64 then
          if ib ((8 * a3) + a2) 64 then
          if (w1.2 97 (ix ((8 * a3) + a2))) ≤ (w1.2 97 (ix ((8 * a4) + a2))) then
            fM_nextTo_b79 (fM_nextTo_b28 a1 a2 z) a1 a2 a3 a4 w1.2
          else
            fM_nextTo_b76 (fM_nextTo_b28 a1 a2 z) a1 a2 a4 w1.2
          else none
          else none
def fM_nextTo (a1 : Int32) (a2 : Int32) (M : Mem) : Option (Int32 × Mem) :=
  if a1 = a2 then
    some ((-1), M)
  else
    if ib ((8 * a1) + a2) 64 then
    if (M 97 (ix ((8 * a1) + a2))) ≤ 7 then
      fM_nextTo_b28 a1 a2 1000 (-1) 0 M
    else
      some ((-1), M)
    else none
def fM_way (a1 : Int32) (a2 : Int32) (a3 : Int32) (M : Mem) : Option (Int32 × Mem) :=
  (fM_isRoom a1 M).bind fun w1 =>
  if w1.1 = 0 then
    some ((-2), w1.2)
  else
    (fM_isRoom a2 w1.2).bind fun w2 =>
    if w2.1 = 0 then
      some ((-2), w2.2)
    else
      (fM_in (a3.toInt64) (0 : Int64) (1 : Int64) w2.2).bind fun w3 =>
      if w3.1 = 0 then
        some ((-2), w3.2)
      else
        (fM_gathers w3.2).bind fun M4 =>
        if a3 = 0 then
          if ib ((8 * a1) + a2) 64 then
          some ((M4 97 (ix ((8 * a1) + a2))), M4)
          else none
        else
          (fM_nextTo a1 a2 M4).bind fun w5 =>
          some (w5.1, w5.2)
def fM_masterIn_b40 : Nat → Int32 → Int32 → Mem → Option (Int32 × Mem)
  | 0, _, _, _ => none
  | z + 1, a3, a4, M =>
    if ib a4 8 then
    if a3 < (M 91 (ix a4)) then
      if ib a4 8 then
      some ((M 90 (ix a4)), M)
      else none
    else
      if ib a4 8 then
      fM_masterIn_b40 z (a3 - (M 91 (ix a4))) (a4 + 1) M
      else none
    else none
def fM_masterIn_b4 (a1 : Int32) : Nat → Int32 → Int32 → Mem → Option (Int32 × Mem)
  | 0, _, _, _ => none
  | z + 1, a2, a3, M =>
    if (M 85 11) ≤ a3 then
      if a2 = 0 then
        some ((-1), M)
      else
        if a2 = 0 then none else
        fM_masterIn_b40 1000 (a1 - a1 / a2 * a2) 0 M
    else
      if ib a3 8 then
      fM_masterIn_b4 a1 z (a2 + (M 91 (ix a3))) (a3 + 1) M
      else none
def fM_masterIn (a1 : Int32) (M : Mem) : Option (Int32 × Mem) :=
  fM_masterIn_b4 a1 1000 0 0 M
def fM_master (a1 : Int32) (M : Mem) : Option (Int32 × Mem) :=
  (fM_in (a1.toInt64) (0 : Int64) (99 : Int64) M).bind fun w1 =>
  if w1.1 = 0 then
    some ((-2), w1.2)
  else
    (fM_masterIn a1 w1.2).bind fun w2 =>
    some (w2.1, w2.2)
def fM_free_b49 (a3 : Int32) (M : Mem) : Option (Int32 × Mem) :=
  some (a3, M)
def fM_free_b24 (a1 : Int32) (a2 : Int32) : Nat → Int32 → Mem → Option (Int32 × Mem)
  | 0, _, _ => none
  | z + 1, a3, M =>
    if 100 ≤ (a2 + a3) then
      fM_free_b49 a3 M
    else
      (fM_masterIn (a2 + a3) M).bind fun w3 =>
      if w3.1 = a1 then
        fM_free_b49 a3 w3.2
      else
        fM_free_b24 a1 a2 z (a3 + 1) w3.2
def fM_free (a1 : Int32) (a2 : Int32) (M : Mem) : Option (Int32 × Mem) :=
  (fM_isRoom a1 M).bind fun w1 =>
  if w1.1 = 0 then
    some ((-2), w1.2)
  else
    (fM_in (a2.toInt64) (0 : Int64) (99 : Int64) w1.2).bind fun w2 =>
    if w2.1 = 0 then
      some ((-2), w2.2)
    else
      fM_free_b24 a1 a2 1000 0 w2.2
def fM_longestOf_b54 (k12 : Int32 → Int32 → Int32 → Mem → Option (Int32 × Mem)) (a1 : Int32) (a2 : Int32) (a3 : Int32) (a4 : Int32) (M : Mem) : Option (Int32 × Mem) :=
  k12 a2 a3 (a4 + 1) M
def fM_longestOf_b36 (k12 : Int32 → Int32 → Int32 → Mem → Option (Int32 × Mem)) (a1 : Int32) (a2 : Int32) (a4 : Int32) (s0 : Int32) (M : Mem) : Option (Int32 × Mem) :=
  if s0 ≤ a2 then
    fM_longestOf_b54 k12 a1 a2 s0 a4 M
  else
    fM_longestOf_b54 k12 a1 s0 s0 a4 (wr M 85 20 ((a4 - s0) + 1))
def fM_longestOf_b12 (a1 : Int32) : Nat → Int32 → Int32 → Int32 → Mem → Option (Int32 × Mem)
  | 0, _, _, _, _ => none
  | z + 1, a2, a3, a4, M =>
    if 100 ≤ a4 then
      some (a2, M)
    else
      (fM_masterIn a4 M).bind fun w1 =>
      if w1.1 = a1 then
        fM_longestOf_b36 (fM_longestOf_b12 a1 z) a1 a2 a4 0 w1.2
      else
        fM_longestOf_b36 (fM_longestOf_b12 a1 z) a1 a2 a4 (a3 + 1) w1.2
def fM_longestOf (a1 : Int32) (M : Mem) : Option (Int32 × Mem) :=
  fM_longestOf_b12 a1 1000 0 0 0 (wr M 85 20 (-1))
def fM_longest (a1 : Int32) (a2 : Int32) (M : Mem) : Option (Int32 × Mem) :=
  (fM_isRoom a1 M).bind fun w1 =>
  if w1.1 = 0 then
    some ((-2), w1.2)
  else
    (fM_in (a2.toInt64) (0 : Int64) (1 : Int64) w1.2).bind fun w2 =>
    if w2.1 = 0 then
      some ((-2), w2.2)
    else
      (fM_longestOf a1 w2.2).bind fun w3 =>
      if a2 = 0 then
        some (w3.1, w3.2)
      else
        some ((w3.2 85 20), w3.2)
def fM_never_b40 (k19 : Int32 → Int32 → Mem → Option (Int32 × Mem)) (a1 : Int32) (a3 : Int32) (s0 : Int32) (s1 : Int32) (M : Mem) : Option (Int32 × Mem) :=
  k19 (s1 ||| (s0 <<< (a3 &&& 31))) (a3 + 1) M
def fM_never_b19 (a1 : Int32) : Nat → Int32 → Int32 → Mem → Option (Int32 × Mem)
  | 0, _, _, _ => none
  | z + 1, a2, a3, M =>
    if 8 ≤ a3 then
      some (a2, M)
    else
      (fM_longestOf a3 M).bind fun w2 =>
      if a1 ≤ w2.1 then
        fM_never_b40 (fM_never_b19 a1 z) a1 a3 0 a2 w2.2
      else
        fM_never_b40 (fM_never_b19 a1 z) a1 a3 1 a2 w2.2
def fM_never (a1 : Int32) (M : Mem) : Option (Int32 × Mem) :=
  (fM_in (a1.toInt64) (0 : Int64) (100 : Int64) M).bind fun w1 =>
  if w1.1 = 0 then
    some ((-2), w1.2)
  else
    fM_never_b19 a1 1000 0 0 w1.2
def fM_feed (a1 : Int32) (M : Mem) : Option (Int32 × Mem) :=
  (fM_in (a1.toInt64) (0 : Int64) (255 : Int64) M).bind fun w1 =>
  if w1.1 = 0 then
    some ((-2), w1.2)
  else
    if (w1.2 85 6) = 160 then
      some ((-4), w1.2)
    else
      if ib (w1.2 85 6) 160 then
      some (((wr (wr w1.2 88 (ix (w1.2 85 6)) a1) 85 6 (((wr w1.2 88 (ix (w1.2 85 6)) a1) 85 6) + 1)) 85 6), (wr (wr w1.2 88 (ix (w1.2 85 6)) a1) 85 6 (((wr w1.2 88 (ix (w1.2 85 6)) a1) 85 6) + 1)))
      else none
def fM_byteAt (a1 : Int32) (M : Mem) : Option (Int32 × Mem) :=
  if (M 85 28) ≤ a1 then
    some ((-1), M)
  else
    if ib ((M 85 27) + a1) 960 then
    some ((M 86 (ix ((M 85 27) + a1))), M)
    else none
def fM_next_b26 (k0 : Mem → Option (Mem)) (M : Mem) : Option (Mem) :=
  k0 (wr M 85 29 ((M 85 29) + 1))
def fM_next_b300 (a1 : Int32) (M : Mem) : Option (Mem) :=
  some (wr (wr (wr (wr M 85 30 3) 85 132 (lgHi (a1.toInt64))) 85 32 (lgLo (a1.toInt64))) 85 29 (((wr (wr (wr M 85 30 3) 85 132 (lgHi (a1.toInt64))) 85 32 (lgLo (a1.toInt64))) 85 29) + 1))
def fM_next_b246 (s0 : Int32) (M : Mem) : Option (Mem) :=
  some (wr M 85 30 s0)
def fM_next_b216 (k160 : Int32 → Mem → Option (Mem)) (a2 : Int32) (s0 : Int64) (M : Mem) : Option (Mem) :=
  k160 (a2 + 1) (wr (wr (wr M 85 132 (lgHi s0)) 85 32 (lgLo s0)) 85 29 (((wr (wr M 85 132 (lgHi s0)) 85 32 (lgLo s0)) 85 29) + 1))
def fM_next_b160 : Nat → Int32 → Mem → Option (Mem)
  | 0, _, _ => none
  | z + 1, a2, M =>
    (fM_byteAt (M 85 29) M).bind fun w6 =>
    (fM_in (w6.1.toInt64) (48 : Int64) (57 : Int64) w6.2).bind fun w7 =>
    if w7.1 = 0 then
      if a2 ≤ 4 then
        fM_next_b246 2 w7.2
      else
        fM_next_b246 4 w7.2
    else
      if 4 ≤ a2 then
        fM_next_b216 (fM_next_b160 z) a2 (lgc (w7.2 85 132) (w7.2 85 32)) w7.2
      else
        (fM_byteAt (w7.2 85 29) w7.2).bind fun w8 =>
        fM_next_b216 (fM_next_b160 z) a2 ((((10 : Int64) * (lgc (w7.2 85 132) (w7.2 85 32))) + (w8.1.toInt64)) - (48 : Int64)) w8.2
def fM_next_b100 : Nat → Mem → Option (Mem)
  | 0, _ => none
  | z + 1, M =>
    (fM_byteAt (M 85 29) M).bind fun w9 =>
    (fM_in (w9.1.toInt64) (97 : Int64) (122 : Int64) w9.2).bind fun w10 =>
    if w10.1 = 0 then
      some w10.2
    else
      fM_next_b100 z (wr w10.2 85 29 ((w10.2 85 29) + 1))
def fM_next_b0 : Nat → Mem → Option (Mem)
  | 0, _ => none
  | z + 1, M =>
    (fM_byteAt (M 85 29) M).bind fun w1 =>
    if w1.1 = 32 then
      fM_next_b26 (fM_next_b0 z) w1.2
    else
      (fM_byteAt (w1.2 85 29) w1.2).bind fun w2 =>
      if w2.1 = 10 then
        fM_next_b26 (fM_next_b0 z) w2.2
      else
        (fM_byteAt ((wr w2.2 85 31 (w2.2 85 29)) 85 29) (wr w2.2 85 31 (w2.2 85 29))).bind fun w3 =>
        if 0 ≤ w3.1 then
          (fM_in (w3.1.toInt64) (97 : Int64) (122 : Int64) (wr w3.2 85 30 4)).bind fun w4 =>
          if w4.1 = 0 then
            (fM_in (w3.1.toInt64) (48 : Int64) (57 : Int64) w4.2).bind fun w5 =>
            if w5.1 = 0 then
              if w3.1 = 40 then
                fM_next_b300 w3.1 w5.2
              else
                if w3.1 = 41 then
                  fM_next_b300 w3.1 w5.2
                else
                  if w3.1 = 59 then
                    fM_next_b300 w3.1 w5.2
                  else
                    if w3.1 = 43 then
                      fM_next_b300 w3.1 w5.2
                    else
                      if w3.1 = 45 then
                        fM_next_b300 w3.1 w5.2
                      else
                        if w3.1 = 42 then
                          fM_next_b300 w3.1 w5.2
                        else
                          if w3.1 = 60 then
                            fM_next_b300 w3.1 w5.2
                          else
                            if w3.1 = 61 then
                              fM_next_b300 w3.1 w5.2
                            else
                              some w5.2
            else
              fM_next_b160 1000 0 (wr (wr (wr w5.2 85 30 2) 85 132 (lgHi (0 : Int64))) 85 32 (lgLo (0 : Int64)))
          else
            fM_next_b100 1000 (wr w4.2 85 30 1)
        else
          some (wr (wr (wr w3.2 85 30 4) 85 30 0) 85 31 ((wr (wr w3.2 85 30 4) 85 30 0) 85 28))
def fM_next (M : Mem) : Option (Mem) :=
  fM_next_b0 1000 M
def fM_fail (M : Mem) : Option (Mem) :=
  if (M 85 34) = 0 then
    some (wr (wr M 85 34 1) 85 35 ((wr M 85 34 1) 85 31))
  else
    some M
def fM_isLetter (a1 : Int32) (a2 : Int32) (M : Mem) : Option (Int32 × Mem) :=
  if (M 85 29) ≤ ((M 85 31) + a1) then
    if a2 = 0 then
      some (1, M)
    else
      some (0, M)
  else
    (fM_byteAt ((M 85 31) + a1) M).bind fun w1 =>
    if w1.1 = a2 then
      some (1, w1.2)
    else
      some (0, w1.2)
def fM_isWord (a1 : Int32) (a2 : Int32) (a3 : Int32) (a4 : Int32) (a5 : Int32) (a6 : Int32) (a7 : Int32) (a8 : Int32) (M : Mem) : Option (Int32 × Mem) :=
  if (M 85 34) = 0 then
    if (M 85 30) = 1 then
      if ((M 85 31) + 8) < (M 85 29) then
        some (0, M)
      else
        (fM_isLetter 0 a1 M).bind fun w1 =>
        if w1.1 = 0 then
          some (0, w1.2)
        else
          (fM_isLetter 1 a2 w1.2).bind fun w2 =>
          if w2.1 = 0 then
            some (0, w2.2)
          else
            (fM_isLetter 2 a3 w2.2).bind fun w3 =>
            if w3.1 = 0 then
              some (0, w3.2)
            else
              (fM_isLetter 3 a4 w3.2).bind fun w4 =>
              if w4.1 = 0 then
                some (0, w4.2)
              else
                (fM_isLetter 4 a5 w4.2).bind fun w5 =>
                if w5.1 = 0 then
                  some (0, w5.2)
                else
                  (fM_isLetter 5 a6 w5.2).bind fun w6 =>
                  if w6.1 = 0 then
                    some (0, w6.2)
                  else
                    (fM_isLetter 6 a7 w6.2).bind fun w7 =>
                    if w7.1 = 0 then
                      some (0, w7.2)
                    else
                      (fM_isLetter 7 a8 w7.2).bind fun w8 =>
                      if w8.1 = 0 then
                        some (0, w8.2)
                      else
                        some (1, w8.2)
    else
      some (0, M)
  else
    some (0, M)
def fM_isSign (a1 : Int32) (M : Mem) : Option (Int32 × Mem) :=
  if (M 85 34) = 0 then
    if (M 85 30) = 3 then
      if (lg_cmp (lgc (M 85 132) (M 85 32)) (a1.toInt64)) = 0 then
        some (1, M)
      else
        some (0, M)
    else
      some (0, M)
  else
    some (0, M)
def fM_opens (M : Mem) : Option (Int32 × Mem) :=
  if (M 85 33) = 5 then
    (fM_fail M).bind fun M1 =>
    some (0, M1)
  else
    (fM_next (wr M 85 33 ((M 85 33) + 1))).bind fun M2 =>
    some (1, M2)
def fM_name (M : Mem) : Option (Int32 × Mem) :=
  (fM_isWord 109 105 110 117 116 101 0 0 M).bind fun w1 =>
  if w1.1 = 0 then
    (fM_isWord 114 111 111 109 0 0 0 0 w1.2).bind fun w2 =>
    if w2.1 = 0 then
      (fM_isWord 108 101 102 116 0 0 0 0 w2.2).bind fun w3 =>
      if w3.1 = 0 then
        (fM_isWord 110 117 109 98 101 114 0 0 w3.2).bind fun w4 =>
        if w4.1 = 0 then
          (fM_isWord 98 101 115 105 100 101 0 0 w4.2).bind fun w5 =>
          if w5.1 = 0 then
            (fM_isWord 109 97 105 100 115 0 0 0 w5.2).bind fun w6 =>
            if w6.1 = 0 then
              (fM_fail w6.2).bind fun M7 =>
              some (0, M7)
            else
              some ((w6.2 85 26), w6.2)
          else
            some ((w5.2 85 25), w5.2)
        else
          some ((w4.2 85 24), w4.2)
      else
        some ((w3.2 85 23), w3.2)
    else
      some ((w2.2 85 22), w2.2)
  else
    some ((w1.2 85 21), w1.2)
def fM_term_b5 (rc : Nat → Mem → Option (Int32 × Mem)) : Nat → Int32 → Mem → Option (Int32 × Mem)
  | 0, _, _ => none
  | z + 1, a1, M =>
    (fM_isSign 42 M).bind fun w2 =>
    if w2.1 = 0 then
      some (a1, w2.2)
    else
      (fM_next w2.2).bind fun M3 =>
      (rc 5 M3).bind fun w4 =>
      fM_term_b5 rc z (a1 * w4.1) w4.2
def fM_term (rc : Nat → Mem → Option (Int32 × Mem)) (M : Mem) : Option (Int32 × Mem) :=
  (rc 5 M).bind fun w1 =>
  fM_term_b5 rc 1000 w1.1 w1.2
def fM_added_b62 (rc : Nat → Mem → Option (Int32 × Mem)) (k5 : Int32 → Mem → Option (Int32 × Mem)) (s0 : Int32) (M : Mem) : Option (Int32 × Mem) :=
  k5 s0 M
def fM_added_b39 (rc : Nat → Mem → Option (Int32 × Mem)) (k5 : Int32 → Mem → Option (Int32 × Mem)) (a1 : Int32) (s0 : Int32) (M : Mem) : Option (Int32 × Mem) :=
  (fM_next M).bind fun M4 =>
  (rc 4 M4).bind fun w5 =>
  if s0 = 0 then
    fM_added_b62 rc k5 (a1 - w5.1) w5.2
  else
    fM_added_b62 rc k5 (a1 + w5.1) w5.2
def fM_added_b23 (rc : Nat → Mem → Option (Int32 × Mem)) (k5 : Int32 → Mem → Option (Int32 × Mem)) (a1 : Int32) (M : Mem) : Option (Int32 × Mem) :=
  if (lg_cmp (lgc (M 85 132) (M 85 32)) (43 : Int64)) = 0 then
    fM_added_b39 rc k5 a1 1 M
  else
    fM_added_b39 rc k5 a1 0 M
def fM_added_b5 (rc : Nat → Mem → Option (Int32 × Mem)) : Nat → Int32 → Mem → Option (Int32 × Mem)
  | 0, _, _ => none
  | z + 1, a1, M =>
    (fM_isSign 43 M).bind fun w2 =>
    if w2.1 = 0 then
      (fM_isSign 45 w2.2).bind fun w3 =>
      if w3.1 = 0 then
        some (a1, w3.2)
      else
        fM_added_b23 rc (fM_added_b5 rc z) a1 w3.2
    else
      fM_added_b23 rc (fM_added_b5 rc z) a1 w2.2
def fM_added (rc : Nat → Mem → Option (Int32 × Mem)) (M : Mem) : Option (Int32 × Mem) :=
  (rc 4 M).bind fun w1 =>
  fM_added_b5 rc 1000 w1.1 w1.2
def fM_not_b120 (rc : Nat → Mem → Option (Int32 × Mem)) (M : Mem) : Option (Int32 × Mem) :=
  some (1, M)
def fM_not_b93 (rc : Nat → Mem → Option (Int32 × Mem)) (a1 : Int32) (s0 : Int32) (M : Mem) : Option (Int32 × Mem) :=
  (fM_next M).bind fun M5 =>
  (rc 3 M5).bind fun w6 =>
  if s0 = 0 then
    if a1 = w6.1 then
      fM_not_b120 rc w6.2
    else
      some (0, w6.2)
  else
    if w6.1 ≤ a1 then
      some (0, w6.2)
    else
      fM_not_b120 rc w6.2
def fM_not_b77 (rc : Nat → Mem → Option (Int32 × Mem)) (a1 : Int32) (M : Mem) : Option (Int32 × Mem) :=
  if (lg_cmp (lgc (M 85 132) (M 85 32)) (60 : Int64)) = 0 then
    fM_not_b93 rc a1 1 M
  else
    fM_not_b93 rc a1 0 M
def fM_not (rc : Nat → Mem → Option (Int32 × Mem)) (M : Mem) : Option (Int32 × Mem) :=
  (fM_isWord 110 111 116 0 0 0 0 0 M).bind fun w1 =>
  if w1.1 = 0 then
    (rc 3 w1.2).bind fun w2 =>
    (fM_isSign 60 w2.2).bind fun w3 =>
    if w3.1 = 0 then
      (fM_isSign 61 w3.2).bind fun w4 =>
      if w4.1 = 0 then
        some (w2.1, w4.2)
      else
        fM_not_b77 rc w2.1 w4.2
    else
      fM_not_b77 rc w2.1 w3.2
  else
    (fM_opens w1.2).bind fun w7 =>
    if w7.1 = 0 then
      some (0, w7.2)
    else
      (rc 2 w7.2).bind fun w8 =>
      if w8.1 = 0 then
        some (1, (wr w8.2 85 33 ((w8.2 85 33) - 1)))
      else
        some (0, (wr w8.2 85 33 ((w8.2 85 33) - 1)))
def fM_both_b45 (rc : Nat → Mem → Option (Int32 × Mem)) (k5 : Int32 → Mem → Option (Int32 × Mem)) (s0 : Int32) (M : Mem) : Option (Int32 × Mem) :=
  k5 s0 M
def fM_both_b44 (rc : Nat → Mem → Option (Int32 × Mem)) (k5 : Int32 → Mem → Option (Int32 × Mem)) (M : Mem) : Option (Int32 × Mem) :=
  fM_both_b45 rc k5 0 M
def fM_both_b5 (rc : Nat → Mem → Option (Int32 × Mem)) : Nat → Int32 → Mem → Option (Int32 × Mem)
  | 0, _, _ => none
  | z + 1, a1, M =>
    (fM_isWord 97 110 100 0 0 0 0 0 M).bind fun w2 =>
    if w2.1 = 0 then
      some (a1, w2.2)
    else
      (fM_next w2.2).bind fun M3 =>
      (rc 2 M3).bind fun w4 =>
      if a1 = 0 then
        fM_both_b44 rc (fM_both_b5 rc z) w4.2
      else
        if w4.1 = 0 then
          fM_both_b44 rc (fM_both_b5 rc z) w4.2
        else
          fM_both_b45 rc (fM_both_b5 rc z) 1 w4.2
def fM_both (rc : Nat → Mem → Option (Int32 × Mem)) (M : Mem) : Option (Int32 × Mem) :=
  (rc 2 M).bind fun w1 =>
  fM_both_b5 rc 1000 w1.1 w1.2
def fM_either_b44 (rc : Nat → Mem → Option (Int32 × Mem)) (k5 : Int32 → Mem → Option (Int32 × Mem)) (s0 : Int32) (M : Mem) : Option (Int32 × Mem) :=
  k5 s0 M
def fM_either_b39 (rc : Nat → Mem → Option (Int32 × Mem)) (k5 : Int32 → Mem → Option (Int32 × Mem)) (M : Mem) : Option (Int32 × Mem) :=
  fM_either_b44 rc k5 1 M
def fM_either_b5 (rc : Nat → Mem → Option (Int32 × Mem)) : Nat → Int32 → Mem → Option (Int32 × Mem)
  | 0, _, _ => none
  | z + 1, a1, M =>
    (fM_isWord 111 114 0 0 0 0 0 0 M).bind fun w2 =>
    if w2.1 = 0 then
      some (a1, w2.2)
    else
      (fM_next w2.2).bind fun M3 =>
      (rc 1 M3).bind fun w4 =>
      if a1 = 0 then
        if w4.1 = 0 then
          fM_either_b44 rc (fM_either_b5 rc z) 0 w4.2
        else
          fM_either_b39 rc (fM_either_b5 rc z) w4.2
      else
        fM_either_b39 rc (fM_either_b5 rc z) w4.2
def fM_either (rc : Nat → Mem → Option (Int32 × Mem)) (M : Mem) : Option (Int32 × Mem) :=
  (rc 1 M).bind fun w1 =>
  fM_either_b5 rc 1000 w1.1 w1.2
def fM_atom_b161 (rc : Nat → Mem → Option (Int32 × Mem)) (a1 : Int32) (M : Mem) : Option (Int32 × Mem) :=
  some (a1, M)
def fM_atom_b157 (rc : Nat → Mem → Option (Int32 × Mem)) (a1 : Int32) (M : Mem) : Option (Int32 × Mem) :=
  (fM_fail M).bind fun M6 =>
  fM_atom_b161 rc a1 M6
def fM_atom_b123 (rc : Nat → Mem → Option (Int32 × Mem)) (a1 : Int32) (M : Mem) : Option (Int32 × Mem) :=
  if (M 85 34) = 0 then
    if (M 85 30) = 1 then
      (fM_name M).bind fun w4 =>
      if (w4.2 85 34) = 0 then
        (fM_next w4.2).bind fun M5 =>
        fM_atom_b161 rc w4.1 M5
      else
        fM_atom_b161 rc w4.1 w4.2
    else
      fM_atom_b157 rc a1 M
  else
    fM_atom_b157 rc a1 M
def fM_atom_b71 (rc : Nat → Mem → Option (Int32 × Mem)) (a1 : Int32) (M : Mem) : Option (Int32 × Mem) :=
  if ((wr M 85 33 ((M 85 33) - 1)) 85 34) = 0 then
    (fM_next (wr M 85 33 ((M 85 33) - 1))).bind fun M11 =>
    fM_atom_b161 rc a1 M11
  else
    fM_atom_b161 rc a1 (wr M 85 33 ((M 85 33) - 1))
def fM_atom (rc : Nat → Mem → Option (Int32 × Mem)) (M : Mem) : Option (Int32 × Mem) :=
  (fM_isSign 45 M).bind fun w1 =>
  if w1.1 = 0 then
    (fM_isSign 40 w1.2).bind fun w2 =>
    if w2.1 = 0 then
      if (w2.2 85 34) = 0 then
        if (w2.2 85 30) = 2 then
          (fM_next w2.2).bind fun M3 =>
          fM_atom_b161 rc ((lgc (w2.2 85 132) (w2.2 85 32)).toInt32) M3
        else
          fM_atom_b123 rc 0 w2.2
      else
        fM_atom_b123 rc 0 w2.2
    else
      (fM_opens w2.2).bind fun w7 =>
      if w7.1 = 0 then
        fM_atom_b161 rc 0 w7.2
      else
        (rc 0 w7.2).bind fun w8 =>
        (fM_isSign 41 w8.2).bind fun w9 =>
        if w9.1 = 0 then
          (fM_fail w9.2).bind fun M10 =>
          fM_atom_b71 rc w8.1 M10
        else
          fM_atom_b71 rc w8.1 w9.2
  else
    (fM_opens w1.2).bind fun w12 =>
    if w12.1 = 0 then
      fM_atom_b161 rc 0 w12.2
    else
      (rc 5 w12.2).bind fun w13 =>
      fM_atom_b161 rc (-w13.1) (wr w13.2 85 33 ((w13.2 85 33) - 1))
def f_rM : Nat → Nat → Mem → Option (Int32 × Mem)
  | 0, _, _ => none
  | d + 1, w, M =>
    if w = 0 then fM_either (f_rM d) M else if w = 1 then fM_both (f_rM d) M else if w = 2 then fM_not (f_rM d) M else if w = 3 then fM_added (f_rM d) M else if w = 4 then fM_term (f_rM d) M else fM_atom (f_rM d) M
def fM_part_b59 (a2 : Int32) (M : Mem) : Option (Int32 × Mem) :=
  some (a2, M)
def fM_part_b48 (a2 : Int32) (M : Mem) : Option (Int32 × Mem) :=
  if (M 85 34) = 0 then
    (fM_next M).bind fun M6 =>
    fM_part_b59 a2 M6
  else
    fM_part_b59 a2 M
def fM_part_b34 (s0 : Int32) (M : Mem) : Option (Int32 × Mem) :=
  (fM_isSign 59 M).bind fun w4 =>
  if w4.1 = 0 then
    (fM_fail w4.2).bind fun M5 =>
    fM_part_b48 s0 M5
  else
    fM_part_b48 s0 w4.2
def fM_part_b19 (M : Mem) : Option (Int32 × Mem) :=
  if (M 85 34) = 0 then
    (f_rM 60 0 M).bind fun w3 =>
    fM_part_b34 w3.1 w3.2
  else
    fM_part_b34 0 M
def fM_part_b8 (M : Mem) : Option (Int32 × Mem) :=
  if (M 85 34) = 0 then
    (fM_next M).bind fun M2 =>
    fM_part_b19 M2
  else
    fM_part_b19 M
def fM_part (a1 : Int32) (M : Mem) : Option (Int32 × Mem) :=
  if a1 = 0 then
    (fM_fail M).bind fun M1 =>
    fM_part_b8 M1
  else
    fM_part_b8 M
def fM_read_b145 (a2 : Int32) (a3 : Int32) (a4 : Int32) (a5 : Int32) (M : Mem) : Option (Int32 × Mem) :=
  if a2 = 0 then
    some (a3, M)
  else
    if a2 = 1 then
      some (a4, M)
    else
      some (a5, M)
def fM_read_b125 (a2 : Int32) (a3 : Int32) (a4 : Int32) (s0 : Int32) (M : Mem) : Option (Int32 × Mem) :=
  if (M 85 34) = 0 then
    if (M 85 30) = 0 then
      fM_read_b145 a2 a3 a4 s0 M
    else
      (fM_fail M).bind fun M8 =>
      fM_read_b145 a2 a3 a4 s0 M8
  else
    fM_read_b145 a2 a3 a4 s0 M
def fM_read_b91 (a2 : Int32) (a3 : Int32) (s0 : Int32) (M : Mem) : Option (Int32 × Mem) :=
  if (M 85 34) = 0 then
    (fM_isWord 99 111 115 116 115 0 0 0 M).bind fun w6 =>
    (fM_part w6.1 w6.2).bind fun w7 =>
    fM_read_b125 a2 a3 s0 w7.1 w7.2
  else
    fM_read_b125 a2 a3 s0 0 M
def fM_read (a1 : Int32) (a2 : Int32) (M : Mem) : Option (Int32 × Mem) :=
  if ib a1 6 then
  (fM_next (wr (wr (wr (wr (wr M 85 27 (160 * a1)) 85 28 ((wr M 85 27 (160 * a1)) 87 (ix a1))) 85 29 0) 85 33 0) 85 34 0)).bind fun M1 =>
  (fM_isWord 115 116 101 112 115 0 0 0 M1).bind fun w2 =>
  (fM_part w2.1 w2.2).bind fun w3 =>
  if (w3.2 85 34) = 0 then
    (fM_isWord 100 111 101 115 0 0 0 0 w3.2).bind fun w4 =>
    (fM_part w4.1 w4.2).bind fun w5 =>
    fM_read_b91 a2 w3.1 w5.1 w5.2
  else
    fM_read_b91 a2 w3.1 0 w3.2
  else none
def fM_text_b14 : Nat → Int32 → Mem → Option (Int32 × Mem)
  | 0, _, _ => none
  | z + 1, a1, M =>
    if (M 85 6) ≤ a1 then
      if ib (M 85 3) 6 then
      (fM_read ((wr (wr M 87 (ix (M 85 3)) (M 85 6)) 85 6 0) 85 3) 0 (wr (wr M 87 (ix (M 85 3)) (M 85 6)) 85 6 0)).bind fun w1 =>
      if (w1.2 85 34) = 0 then
        some ((((wr w1.2 85 3 ((w1.2 85 3) + 1)) 85 3) - 1), (wr w1.2 85 3 ((w1.2 85 3) + 1)))
      else
        some (((-100) - (w1.2 85 35)), w1.2)
      else none
    else
      if ib a1 160 then
      if ib ((160 * (M 85 3)) + a1) 960 then
      fM_text_b14 z (a1 + 1) (wr M 86 (ix ((160 * (M 85 3)) + a1)) (M 88 (ix a1)))
      else none
      else none
def fM_text (M : Mem) : Option (Int32 × Mem) :=
  if (M 85 3) = 6 then
    some ((-4), M)
  else
    fM_text_b14 1000 0 M
def fM_force (a1 : Int32) (M : Mem) : Option (Int32 × Mem) :=
  (fM_in (a1.toInt64) (0 : Int64) (((M 85 3) - 1).toInt64) M).bind fun w1 =>
  if w1.1 = 0 then
    some ((-2), w1.2)
  else
    some ((w1.2 85 4), (wr w1.2 85 4 a1))
def fM_says_b155 (s0 : Int32) (s1 : Int32) (s2 : Int32) (M : Mem) : Option (Int32 × Mem) :=
  (fM_within s2 s1 s0 M).bind fun w2 =>
  some (w2.1, w2.2)
def fM_says_b143 (a1 : Int32) (s0 : Int32) (s1 : Int32) (M : Mem) : Option (Int32 × Mem) :=
  if a1 = 2 then
    fM_says_b155 99 s0 s1 M
  else
    fM_says_b155 9 s0 s1 M
def fM_says_b63 (k6 : Int32 → Int32 → Mem → Option (Int32 × Mem)) (a1 : Int32) (a2 : Int32) (a3 : Int32) (a4 : Int32) (a6 : Int32) (s0 : Int32) (s1 : Int32) (M : Mem) : Option (Int32 × Mem) :=
  k6 (s1 + s0) (a6 + 1) M
def fM_says_b62 (k6 : Int32 → Int32 → Mem → Option (Int32 × Mem)) (a1 : Int32) (a2 : Int32) (a3 : Int32) (a4 : Int32) (a6 : Int32) (s0 : Int32) (M : Mem) : Option (Int32 × Mem) :=
  fM_says_b63 k6 a1 a2 a3 a4 a6 0 s0 M
def fM_says_b6 (a1 : Int32) (a2 : Int32) (a3 : Int32) (a4 : Int32) : Nat → Int32 → Int32 → Mem → Option (Int32 × Mem)
  | 0, _, _, _ => none
  | z + 1, a5, a6, M =>
    if (M 85 17) ≤ a6 then
      if ib a2 4 then
      if ib a2 4 then
      if ib ((wr (wr M 85 21 a3) 85 22 ((wr M 85 21 a3) 98 (ix a2))) 98 (ix a2)) 8 then
      if ib a2 4 then
      (fM_read ((wr (wr (wr (wr (wr (wr M 85 21 a3) 85 22 ((wr M 85 21 a3) 98 (ix a2))) 85 23 ((wr (wr M 85 21 a3) 85 22 ((wr M 85 21 a3) 98 (ix a2))) 104 (ix ((wr (wr M 85 21 a3) 85 22 ((wr M 85 21 a3) 98 (ix a2))) 98 (ix a2))))) 85 24 ((wr (wr (wr M 85 21 a3) 85 22 ((wr M 85 21 a3) 98 (ix a2))) 85 23 ((wr (wr M 85 21 a3) 85 22 ((wr M 85 21 a3) 98 (ix a2))) 104 (ix ((wr (wr M 85 21 a3) 85 22 ((wr M 85 21 a3) 98 (ix a2))) 98 (ix a2))))) 93 (ix a2))) 85 25 a4) 85 26 a5) 85 4) a1 (wr (wr (wr (wr (wr (wr M 85 21 a3) 85 22 ((wr M 85 21 a3) 98 (ix a2))) 85 23 ((wr (wr M 85 21 a3) 85 22 ((wr M 85 21 a3) 98 (ix a2))) 104 (ix ((wr (wr M 85 21 a3) 85 22 ((wr M 85 21 a3) 98 (ix a2))) 98 (ix a2))))) 85 24 ((wr (wr (wr M 85 21 a3) 85 22 ((wr M 85 21 a3) 98 (ix a2))) 85 23 ((wr (wr M 85 21 a3) 85 22 ((wr M 85 21 a3) 98 (ix a2))) 104 (ix ((wr (wr M 85 21 a3) 85 22 ((wr M 85 21 a3) 98 (ix a2))) 98 (ix a2))))) 93 (ix a2))) 85 25 a4) 85 26 a5)).bind fun w1 =>
      if a1 = 2 then
        fM_says_b143 a1 0 w1.1 w1.2
      else
        fM_says_b143 a1 1 w1.1 w1.2
      else none
      else none
      else none
      else none
    else
      if a6 = a2 then
        fM_says_b62 (fM_says_b6 a1 a2 a3 a4 z) a1 a2 a3 a4 a6 a5 M
      else
        if a6 = (M 85 18) then
          fM_says_b62 (fM_says_b6 a1 a2 a3 a4 z) a1 a2 a3 a4 a6 a5 M
        else
          if ib a6 4 then
          if (M 99 (ix a6)) = 0 then
            if ib a6 4 then
            if ib a2 4 then
            if (M 98 (ix a6)) = (M 98 (ix a2)) then
              fM_says_b63 (fM_says_b6 a1 a2 a3 a4 z) a1 a2 a3 a4 a6 1 a5 M
            else
              fM_says_b62 (fM_says_b6 a1 a2 a3 a4 z) a1 a2 a3 a4 a6 a5 M
            else none
            else none
          else
            fM_says_b62 (fM_says_b6 a1 a2 a3 a4 z) a1 a2 a3 a4 a6 a5 M
          else none
def fM_says (a1 : Int32) (a2 : Int32) (a3 : Int32) (a4 : Int32) (M : Mem) : Option (Int32 × Mem) :=
  fM_says_b6 a1 a2 a3 a4 1000 0 0 M
def fM_takesOf_b66 (s0 : Int32) (M : Mem) : Option (Int32 × Mem) :=
  if 1 ≤ s0 then
    some (s0, M)
  else
    some (1, M)
def fM_takesOf_b17 (a1 : Int32) (a2 : Int32) (M : Mem) : Option (Int32 × Mem) :=
  if ib a1 4 then
  fM_takesOf_b66 (a2 - ((M 93 (ix a1)) / 3)) M
  else none
def fM_takesOf (a1 : Int32) (a2 : Int32) (M : Mem) : Option (Int32 × Mem) :=
  if ib a1 4 then
  if (M 92 (ix a1)) = 1 then
    fM_takesOf_b17 a1 a2 M
  else
    if (M 92 (ix a1)) = 3 then
      fM_takesOf_b17 a1 a2 M
    else
      if (M 92 (ix a1)) = 2 then
        fM_takesOf_b66 (a2 + 1) M
      else
        if (M 92 (ix a1)) = 4 then
          fM_takesOf_b66 (2 * (a2 + 1)) M
        else
          if (M 92 (ix a1)) = 5 then
            fM_takesOf_b66 (2 * a2) M
          else
            fM_takesOf_b66 a2 M
  else none
def fM_worksOf_b51 (s0 : Int32) (M : Mem) : Option (Int32 × Mem) :=
  if 1 ≤ s0 then
    some (s0, M)
  else
    some (1, M)
def fM_worksOf_b17 (a2 : Int32) (M : Mem) : Option (Int32 × Mem) :=
  fM_worksOf_b51 (a2 + 1) M
def fM_worksOf (a1 : Int32) (a2 : Int32) (M : Mem) : Option (Int32 × Mem) :=
  if ib a1 4 then
  if (M 92 (ix a1)) = 1 then
    fM_worksOf_b17 a2 M
  else
    if (M 92 (ix a1)) = 3 then
      fM_worksOf_b17 a2 M
    else
      if (M 92 (ix a1)) = 4 then
        if ib a1 4 then
        fM_worksOf_b51 (a2 + (M 93 (ix a1))) M
        else none
      else
        if (M 92 (ix a1)) = 5 then
          fM_worksOf_b51 (a2 / 2) M
        else
          fM_worksOf_b51 a2 M
  else none
def fM_aimOf (a1 : Int32) (M : Mem) : Option (Int32 × Mem) :=
  if ib a1 4 then
  if ib a1 4 then
  if (M 96 (ix a1)) ≤ (M 101 (ix a1)) then
    some ((-1), M)
  else
    if ib a1 4 then
    if ib ((5 * a1) + (M 101 (ix a1))) 20 then
    some ((M 95 (ix ((5 * a1) + (M 101 (ix a1))))), M)
    else none
    else none
  else none
  else none
def fM_startsOff_b32 : Nat → Int32 → Mem → Option (Mem)
  | 0, _, _ => none
  | z + 1, a1, M =>
    if 4 ≤ a1 then
      some (wr (wr M 85 43 0) 85 44 (-1))
    else
      if ib a1 4 then
      if ib a1 4 then
      if ib a1 4 then
      if ib a1 4 then
      if ib a1 4 then
      if ib a1 4 then
      fM_startsOff_b32 z (a1 + 1) (wr (wr (wr (wr (wr M 98 (ix a1) (M 94 (ix a1))) 99 (ix a1) 0) 101 (ix a1) 0) 102 (ix a1) 0) 103 (ix a1) 0)
      else none
      else none
      else none
      else none
      else none
      else none
def fM_startsOff_b6 : Nat → Int32 → Mem → Option (Mem)
  | 0, _, _ => none
  | z + 1, a1, M =>
    if 8 ≤ a1 then
      fM_startsOff_b32 1000 0 M
    else
      if ib a1 8 then
      if ib a1 8 then
      fM_startsOff_b6 z (a1 + 1) (wr M 104 (ix a1) (M 89 (ix a1)))
      else none
      else none
def fM_startsOff (M : Mem) : Option (Mem) :=
  (fM_gathers M).bind fun M1 =>
  fM_startsOff_b6 1000 0 M1
def fM_acts_b198 (s0 : Int32) (s1 : Int32) (s2 : Int32) (M : Mem) : Option (Mem) :=
  if ib s2 4 then
  some (wr M 101 (ix s2) (s1 + s0))
  else none
def fM_acts_b180 (a1 : Int32) (a6 : Int32) (s0 : Int32) (s1 : Int32) (M : Mem) : Option (Mem) :=
  if ib s1 8 then
  if ib a1 4 then
  if 0 < a6 then
    fM_acts_b198 0 ((wr M 104 (ix s1) s0) 101 (ix a1)) a1 (wr M 104 (ix s1) s0)
  else
    fM_acts_b198 1 ((wr M 104 (ix s1) s0) 101 (ix a1)) a1 (wr M 104 (ix s1) s0)
  else none
  else none
def fM_acts_b269 (a1 : Int32) (M : Mem) : Option (Mem) :=
  if ib a1 4 then
  if ib a1 4 then
  some (wr M 103 (ix a1) ((M 103 (ix a1)) + 1))
  else none
  else none
def fM_acts_b238 (a1 : Int32) (a2 : Int32) (a5 : Int32) (M : Mem) : Option (Mem) :=
  if ib a1 4 then
  (fM_says 0 a1 a2 a5 (wr M 100 (ix a1) a5)).bind fun w6 =>
  (fM_takesOf a1 w6.1 w6.2).bind fun w7 =>
  if ib a1 4 then
  some (wr w7.2 99 (ix a1) w7.1)
  else none
  else none
def fM_acts_b85 (s0 : Int32) (s1 : Int32) (M : Mem) : Option (Mem) :=
  if ib s1 4 then
  some (wr M 98 (ix s1) s0)
  else none
def fM_acts_b35 (a1 : Int32) (a2 : Int32) (a3 : Int32) (a4 : Int32) (s0 : Int32) (M : Mem) : Option (Mem) :=
  if ib a1 4 then
  if (M 99 (ix a1)) ≤ 0 then
    if ib a1 4 then
    if a3 = (M 98 (ix a1)) then
      if ib a1 4 then
      if ib a1 4 then
      (fM_says 2 a1 a2 0 (wr M 102 (ix a1) ((M 102 (ix a1)) + 1))).bind fun w3 =>
      some (wr w3.2 85 43 (((wr M 102 (ix a1) ((M 102 (ix a1)) + 1)) 85 43) + w3.1))
      else none
      else none
    else
      if ib a1 4 then
      if a4 = (M 98 (ix a1)) then
        if ib a4 8 then
        (fM_says 1 a1 a2 0 M).bind fun w4 =>
        (fM_worksOf a1 w4.1 w4.2).bind fun w5 =>
        if 0 ≤ ((M 104 (ix a4)) - w5.1) then
          fM_acts_b180 a1 ((M 104 (ix a4)) - w5.1) ((M 104 (ix a4)) - w5.1) a4 w5.2
        else
          fM_acts_b180 a1 ((M 104 (ix a4)) - w5.1) 0 a4 w5.2
        else none
      else
        if s0 = (-1) then
          fM_acts_b269 a1 M
        else
          if a3 = s0 then
            if ib a1 4 then
            if (M 92 (ix a1)) = 3 then
              if ib a1 4 then
              if ((M 93 (ix a1)) + 2) = 0 then none else
              if (a2 - a2 / ((M 93 (ix a1)) + 2) * ((M 93 (ix a1)) + 2)) = 0 then
                fM_acts_b238 a1 a2 s0 M
              else
                fM_acts_b269 a1 M
              else none
            else
              fM_acts_b269 a1 M
            else none
          else
            fM_acts_b238 a1 a2 s0 M
      else none
    else none
  else
    if ib a1 4 then
    if ib a1 4 then
    if ib a1 4 then
    if ((wr M 99 (ix a1) ((M 99 (ix a1)) - 1)) 99 (ix a1)) = 0 then
      if ib a1 4 then
      fM_acts_b85 ((wr M 99 (ix a1) ((M 99 (ix a1)) - 1)) 100 (ix a1)) a1 (wr M 99 (ix a1) ((M 99 (ix a1)) - 1))
      else none
    else
      if ib a1 4 then
      fM_acts_b85 ((wr M 99 (ix a1) ((M 99 (ix a1)) - 1)) 98 (ix a1)) a1 (wr M 99 (ix a1) ((M 99 (ix a1)) - 1))
      else none
    else none
    else none
    else none
  else none
def fM_acts (a1 : Int32) (a2 : Int32) (M : Mem) : Option (Mem) :=
  (fM_masterIn a2 M).bind fun w1 =>
  (fM_aimOf a1 w1.2).bind fun w2 =>
  if w2.1 = (-1) then
    fM_acts_b35 a1 a2 w1.1 w2.1 (-1) w2.2
  else
    if ib a1 4 then
    (fM_nextTo (w2.2 98 (ix a1)) w2.1 w2.2).bind fun w8 =>
    fM_acts_b35 a1 a2 w1.1 w2.1 w8.1 w8.2
    else none
def fM_isReady_b56 (k2 : Int32 → Mem → Option (Int32 × Mem)) (a1 : Int32) (M : Mem) : Option (Int32 × Mem) :=
  k2 (a1 + 1) M
def fM_isReady_b12 (k2 : Int32 → Mem → Option (Int32 × Mem)) (a1 : Int32) : Nat → Int32 → Mem → Option (Int32 × Mem)
  | 0, _, _ => none
  | z + 1, a2, M =>
    if ib a1 4 then
    if (M 96 (ix a1)) ≤ a2 then
      fM_isReady_b56 k2 a1 M
    else
      if a1 = (M 85 18) then
        fM_isReady_b56 k2 a1 M
      else
        if ib ((5 * a1) + a2) 20 then
        if ib (M 95 (ix ((5 * a1) + a2))) 8 then
        if (M 104 (ix (M 95 (ix ((5 * a1) + a2))))) ≤ 0 then
          fM_isReady_b12 k2 a1 z (a2 + 1) M
        else
          some (0, M)
        else none
        else none
    else none
def fM_isReady_b2 : Nat → Int32 → Mem → Option (Int32 × Mem)
  | 0, _, _ => none
  | z + 1, a1, M =>
    if (M 85 17) ≤ a1 then
      some (1, M)
    else
      fM_isReady_b12 (fM_isReady_b2 z) a1 1000 0 M
def fM_isReady (M : Mem) : Option (Int32 × Mem) :=
  fM_isReady_b2 1000 0 M
def fM_lives_b54 (s0 : Int32) (M : Mem) : Option (Mem) :=
  some (wr M 85 44 s0)
def fM_lives_b50 (M : Mem) : Option (Mem) :=
  fM_lives_b54 (M 85 44) M
def fM_lives_b24 (k2 : Int32 → Mem → Option (Mem)) (a1 : Int32) (a2 : Int32) (M : Mem) : Option (Mem) :=
  k2 (a2 + 1) M
def fM_lives_b2 (a1 : Int32) : Nat → Int32 → Mem → Option (Mem)
  | 0, _, _ => none
  | z + 1, a2, M =>
    if (M 85 17) ≤ a2 then
      if (M 85 44) = (-1) then
        (fM_isReady M).bind fun w1 =>
        if w1.1 = 0 then
          fM_lives_b50 w1.2
        else
          fM_lives_b54 a1 w1.2
      else
        fM_lives_b50 M
    else
      if a2 = (M 85 18) then
        fM_lives_b24 (fM_lives_b2 a1 z) a1 a2 M
      else
        (fM_acts a2 a1 M).bind fun M2 =>
        fM_lives_b24 (fM_lives_b2 a1 z) a1 a2 M2
def fM_lives (a1 : Int32) (M : Mem) : Option (Mem) :=
  fM_lives_b2 a1 1000 0 M
def fM_livesAll_b6 (a1 : Int32) : Nat → Int32 → Mem → Option (Mem)
  | 0, _, _ => none
  | z + 1, a2, M =>
    if a1 ≤ a2 then
      some M
    else
      (fM_lives a2 M).bind fun M2 =>
      fM_livesAll_b6 a1 z (a2 + 1) M2
def fM_livesAll (a1 : Int32) (M : Mem) : Option (Mem) :=
  (fM_startsOff M).bind fun M1 =>
  fM_livesAll_b6 a1 1000 0 M1
def fM_leftAll_b4 : Nat → Int32 → Int32 → Mem → Option (Int32 × Mem)
  | 0, _, _, _ => none
  | z + 1, a1, a2, M =>
    if 8 ≤ a2 then
      some (a1, M)
    else
      if ib a2 8 then
      fM_leftAll_b4 z (a1 + (M 104 (ix a2))) (a2 + 1) M
      else none
def fM_leftAll (M : Mem) : Option (Int32 × Mem) :=
  fM_leftAll_b4 1000 0 0 M
def fM_dear (M : Mem) : Option (Int32 × Mem) :=
  (fM_livesAll 100 M).bind fun M1 =>
  (fM_leftAll M1).bind fun w2 =>
  some ((w2.1 + (w2.2 85 43)), w2.2)
def fM_morning_b66 (a1 : Int32) (a2 : Int32) (M : Mem) : Option (Int32 × Mem) :=
  (fM_livesAll a1 M).bind fun M5 =>
  if 4 ≤ a2 then
    if a2 ≤ 49 then
      if 20 ≤ a2 then
        if 30 ≤ a2 then
          if 40 ≤ a2 then
            (fM_aimOf (a2 - a2 / 10 * 10) M5).bind fun w6 =>
            some (w6.1, w6.2)
          else
            if ib (a2 - a2 / 10 * 10) 4 then
            some ((M5 103 (ix (a2 - a2 / 10 * 10))), M5)
            else none
        else
          if ib (a2 - a2 / 10 * 10) 4 then
          some ((M5 102 (ix (a2 - a2 / 10 * 10))), M5)
          else none
      else
        if ib (a2 - a2 / 10 * 10) 4 then
        some ((M5 98 (ix (a2 - a2 / 10 * 10))), M5)
        else none
    else
      if ib (a2 - 50) 8 then
      some ((M5 104 (ix (a2 - 50))), M5)
      else none
  else
    if a2 = 0 then
      (fM_leftAll M5).bind fun w7 =>
      some (w7.1, w7.2)
    else
      if a2 = 1 then
        some ((M5 85 43), M5)
      else
        if a2 = 2 then
          some ((M5 85 44), M5)
        else
          (fM_leftAll M5).bind fun w8 =>
          some ((w8.1 + (w8.2 85 43)), w8.2)
def fM_morning_b49 (a1 : Int32) (a2 : Int32) (M : Mem) : Option (Int32 × Mem) :=
  (fM_in (a2.toInt64) (50 : Int64) (57 : Int64) M).bind fun w4 =>
  if w4.1 = 0 then
    some ((-2), w4.2)
  else
    fM_morning_b66 a1 a2 w4.2
def fM_morning (a1 : Int32) (a2 : Int32) (M : Mem) : Option (Int32 × Mem) :=
  (fM_in (a1.toInt64) (0 : Int64) (100 : Int64) M).bind fun w1 =>
  if w1.1 = 0 then
    some ((-2), w1.2)
  else
    (fM_in (a2.toInt64) (0 : Int64) (3 : Int64) w1.2).bind fun w2 =>
    if w2.1 = 0 then
      (fM_in (a2.toInt64) (10 : Int64) (49 : Int64) w2.2).bind fun w3 =>
      if w3.1 = 0 then
        fM_morning_b49 a1 a2 w3.2
      else
        (fM_isMaid (a2 - a2 / 10 * 10) w3.2).bind fun w9 =>
        if w9.1 = 0 then
          fM_morning_b49 a1 a2 w9.2
        else
          fM_morning_b66 a1 a2 w9.2
    else
      fM_morning_b66 a1 a2 w2.2
def fM_orders_b51 (rc : Int32 → Int32 → Int32 → Mem → Option Mem) (a1 : Int32) (a4 : Int32) : Nat → Int32 → Mem → Option (Mem)
  | 0, _, _ => none
  | z + 1, a6, M =>
    if a4 ≤ a6 then
      some M
    else
      if ib ((5 * a1) + a6) 20 then
      fM_orders_b51 rc a1 a4 z (a6 + 1) (wr M 85 47 (((10 * (M 85 47)) + (M 95 (ix ((5 * a1) + a6)))) + 1))
      else none
def fM_orders_b37 (rc : Int32 → Int32 → Int32 → Mem → Option Mem) (a1 : Int32) (a4 : Int32) (a5 : Int32) (M : Mem) : Option (Mem) :=
  fM_orders_b51 rc a1 a4 1000 0 (wr (wr M 85 46 a5) 85 47 0)
def fM_orders_b140 (rc : Int32 → Int32 → Int32 → Mem → Option Mem) (k93 : Int32 → Mem → Option (Mem)) (a1 : Int32) (a2 : Int32) (a3 : Int32) (a4 : Int32) (a5 : Int32) (M : Mem) : Option (Mem) :=
  k93 (a5 + 1) M
def fM_orders_b93 (rc : Int32 → Int32 → Int32 → Mem → Option Mem) (a1 : Int32) (a2 : Int32) (a3 : Int32) (a4 : Int32) : Nat → Int32 → Mem → Option (Mem)
  | 0, _, _ => none
  | z + 1, a5, M =>
    if a4 ≤ a5 then
      some M
    else
      if ((a3 >>> (a5 &&& 31)) &&& 1) = 0 then
        if ib a5 5 then
        if ib ((5 * a1) + a2) 20 then
        (rc a1 (a2 + 1) (a3 ||| (1 <<< (a5 &&& 31))) (wr M 95 (ix ((5 * a1) + a2)) (M 105 (ix a5)))).bind fun M2 =>
        fM_orders_b140 rc (fM_orders_b93 rc a1 a2 a3 a4 z) a1 a2 a3 a4 a5 M2
        else none
        else none
      else
        fM_orders_b140 rc (fM_orders_b93 rc a1 a2 a3 a4 z) a1 a2 a3 a4 a5 M
def fM_orders (rc : Int32 → Int32 → Int32 → Mem → Option Mem) (a1 : Int32) (a2 : Int32) (a3 : Int32) (M : Mem) : Option (Mem) :=
  if ib a1 4 then
  if a2 = (M 96 (ix a1)) then
    (fM_dear M).bind fun w1 =>
    if (w1.2 85 47) = (-1) then
      fM_orders_b37 rc a1 (M 96 (ix a1)) w1.1 w1.2
    else
      if (w1.2 85 46) ≤ w1.1 then
        some w1.2
      else
        fM_orders_b37 rc a1 (M 96 (ix a1)) w1.1 w1.2
  else
    fM_orders_b93 rc a1 a2 a3 (M 96 (ix a1)) 1000 0 M
  else none
def f_rO : Nat → Int32 → Int32 → Int32 → Mem → Option Mem
  | 0, _, _, _, _ => none
  | d + 1, a, b, c, M => fM_orders (f_rO d) a b c M
def fM_best_b64 (a1 : Int32) (a2 : Int32) : Nat → Int32 → Mem → Option (Int32 × Mem)
  | 0, _, _ => none
  | z + 1, a3, M =>
    if 5 ≤ a3 then
      if a2 = 0 then
        some ((M 85 47), M)
      else
        some ((M 85 46), M)
    else
      if ib a3 5 then
      if ib ((5 * a1) + a3) 20 then
      fM_best_b64 a1 a2 z (a3 + 1) (wr M 95 (ix ((5 * a1) + a3)) (M 105 (ix a3)))
      else none
      else none
def fM_best_b23 (a1 : Int32) (a2 : Int32) : Nat → Int32 → Mem → Option (Int32 × Mem)
  | 0, _, _ => none
  | z + 1, a3, M =>
    if 5 ≤ a3 then
      (f_rO 60 a1 0 0 (wr M 85 47 (-1))).bind fun M3 =>
      fM_best_b64 a1 a2 1000 0 M3
    else
      if ib ((5 * a1) + a3) 20 then
      if ib a3 5 then
      fM_best_b23 a1 a2 z (a3 + 1) (wr M 105 (ix a3) (M 95 (ix ((5 * a1) + a3))))
      else none
      else none
def fM_best (a1 : Int32) (a2 : Int32) (M : Mem) : Option (Int32 × Mem) :=
  (fM_isMaid a1 M).bind fun w1 =>
  if w1.1 = 0 then
    some ((-2), w1.2)
  else
    (fM_in (a2.toInt64) (0 : Int64) (1 : Int64) w1.2).bind fun w2 =>
    if w2.1 = 0 then
      some ((-2), w2.2)
    else
      fM_best_b23 a1 a2 1000 0 w2.2
def fM_begin_b79 (k37 : Int32 → Int32 → Int32 → Mem → Option (Int32 × Mem)) (a1 : Int32) (a2 : Int32) (a3 : Int32) (a4 : Int32) (a5 : Int32) (a6 : Int32) (M : Mem) : Option (Int32 × Mem) :=
  k37 a4 a5 (a6 + 1) M
def fM_begin_b71 (k37 : Int32 → Int32 → Int32 → Mem → Option (Int32 × Mem)) (a1 : Int32) (a2 : Int32) (a3 : Int32) (a6 : Int32) (a7 : Int32) (M : Mem) : Option (Int32 × Mem) :=
  fM_begin_b79 k37 a1 a2 a3 a6 a7 a6 M
def fM_begin_b37 (a1 : Int32) (a2 : Int32) (a3 : Int32) : Nat → Int32 → Int32 → Int32 → Mem → Option (Int32 × Mem)
  | 0, _, _, _, _ => none
  | z + 1, a4, a5, a6, M =>
    if 8 ≤ a6 then
      if ib a1 4 then
      if a2 = 0 then
        some (a4, (wr M 94 (ix a1) a3))
      else
        some (a5, (wr M 94 (ix a1) a3))
      else none
    else
      if ib a1 4 then
      (fM_dear (wr M 94 (ix a1) a6)).bind fun w3 =>
      if a4 = (-1) then
        fM_begin_b71 (fM_begin_b37 a1 a2 a3 z) a1 a2 a3 a6 w3.1 w3.2
      else
        if a5 ≤ w3.1 then
          fM_begin_b79 (fM_begin_b37 a1 a2 a3 z) a1 a2 a3 a4 a5 a6 w3.2
        else
          fM_begin_b71 (fM_begin_b37 a1 a2 a3 z) a1 a2 a3 a6 w3.1 w3.2
      else none
def fM_begin (a1 : Int32) (a2 : Int32) (M : Mem) : Option (Int32 × Mem) :=
  (fM_isMaid a1 M).bind fun w1 =>
  if w1.1 = 0 then
    some ((-2), w1.2)
  else
    (fM_in (a2.toInt64) (0 : Int64) (1 : Int64) w1.2).bind fun w2 =>
    if w2.1 = 0 then
      some ((-2), w2.2)
    else
      if ib a1 4 then
      fM_begin_b37 a1 a2 (w2.2 94 (ix a1)) 1000 (-1) 0 0 w2.2
      else none
def fM_home_b61 (k23 : Int32 → Int32 → Int32 → Mem → Option (Int32 × Mem)) (a1 : Int32) (a2 : Int32) (a3 : Int32) (a4 : Int32) (M : Mem) : Option (Int32 × Mem) :=
  k23 a2 a3 (a4 + 1) M
def fM_home_b23 (a1 : Int32) : Nat → Int32 → Int32 → Int32 → Mem → Option (Int32 × Mem)
  | 0, _, _, _, _ => none
  | z + 1, a2, a3, a4, M =>
    if (M 85 17) ≤ a4 then
      if a1 = 0 then
        some (a2, M)
      else
        some (a3, M)
    else
      (fM_dear (wr M 85 18 a4)).bind fun w3 =>
      if a3 ≤ w3.1 then
        fM_home_b61 (fM_home_b23 a1 z) a1 a2 a3 a4 (wr w3.2 85 18 (-1))
      else
        fM_home_b61 (fM_home_b23 a1 z) a1 a4 w3.1 a4 (wr w3.2 85 18 (-1))
def fM_home (a1 : Int32) (M : Mem) : Option (Int32 × Mem) :=
  (fM_in (a1.toInt64) (0 : Int64) (1 : Int64) M).bind fun w1 =>
  if w1.1 = 0 then
    some ((-2), w1.2)
  else
    (fM_dear w1.2).bind fun w2 =>
    fM_home_b23 a1 1000 (-1) w2.1 0 w2.2
def fM_stairs (M : Mem) : Option (Int32 × Mem) :=
  (fM_dear (wr M 85 7 0)).bind fun w1 =>
  (fM_dear (wr w1.2 85 7 3)).bind fun w2 =>
  some ((w1.1 - w2.1), (wr w2.2 85 7 (M 85 7)))
def fM_isSheet (a0 : Int32) (M : Mem) : Option (Int32 × Mem) :=
  (fM_in (a0.toInt64) (0 : Int64) (3 : Int64) M).bind fun w1 =>
  if w1.1 = 0 ∨ w1.1 = 1 then some (w1.1, w1.2) else none
def fM_from_b129 (k40 : Int32 → Int32 → Int32 → Mem → Option (Int32 × Mem)) (a1 : Int32) (a2 : Int32) (a3 : Int32) (a4 : Int32) (a5 : Int32) (M : Mem) : Option (Int32 × Mem) :=
  k40 a3 a4 (a5 + 1) M
def fM_from_b127 (k40 : Int32 → Int32 → Int32 → Mem → Option (Int32 × Mem)) (a1 : Int32) (a2 : Int32) (a3 : Int32) (a5 : Int32) (s0 : Int32) (M : Mem) : Option (Int32 × Mem) :=
  fM_from_b129 k40 a1 a2 a3 s0 a5 M
def fM_from_b98 (k40 : Int32 → Int32 → Int32 → Mem → Option (Int32 × Mem)) (k53 : Int32 → Int32 → Mem → Option (Int32 × Mem)) (a1 : Int32) (a2 : Int32) (a3 : Int32) (a4 : Int32) (a5 : Int32) (a7 : Int32) (s0 : Int32) (M : Mem) : Option (Int32 × Mem) :=
  k53 s0 (a7 + 1) M
def fM_from_b97 (k40 : Int32 → Int32 → Int32 → Mem → Option (Int32 × Mem)) (k53 : Int32 → Int32 → Mem → Option (Int32 × Mem)) (a1 : Int32) (a2 : Int32) (a3 : Int32) (a4 : Int32) (a5 : Int32) (a7 : Int32) (M : Mem) : Option (Int32 × Mem) :=
  fM_from_b98 k40 k53 a1 a2 a3 a4 a5 a7 0 M
def fM_from_b53 (k40 : Int32 → Int32 → Int32 → Mem → Option (Int32 × Mem)) (a1 : Int32) (a2 : Int32) (a3 : Int32) (a4 : Int32) (a5 : Int32) : Nat → Int32 → Int32 → Mem → Option (Int32 × Mem)
  | 0, _, _, _ => none
  | z + 1, a6, a7, M =>
    if ib a1 4 then
    if (M 111 (ix a1)) ≤ a7 then
      if a6 = 0 then
        fM_from_b129 k40 a1 a2 a3 a4 a5 M
      else
        if a4 = (-1) then
          fM_from_b127 k40 a1 a2 (a3 + 1) a5 a5 M
        else
          fM_from_b127 k40 a1 a2 (a3 + 1) a5 a4 M
    else
      if a6 = 0 then
        fM_from_b97 k40 (fM_from_b53 k40 a1 a2 a3 a4 a5 z) a1 a2 a3 a4 a5 a7 M
      else
        (fM_masterIn (a7 + a5) M).bind fun w3 =>
        if ib ((40 * a1) + a7) 160 then
        if w3.1 = (w3.2 112 (ix ((40 * a1) + a7))) then
          fM_from_b98 k40 (fM_from_b53 k40 a1 a2 a3 a4 a5 z) a1 a2 a3 a4 a5 a7 1 w3.2
        else
          fM_from_b97 k40 (fM_from_b53 k40 a1 a2 a3 a4 a5 z) a1 a2 a3 a4 a5 a7 w3.2
        else none
    else none
def fM_from_b40 (a1 : Int32) (a2 : Int32) : Nat → Int32 → Int32 → Int32 → Mem → Option (Int32 × Mem)
  | 0, _, _, _, _ => none
  | z + 1, a3, a4, a5, M =>
    if 100 ≤ a5 then
      if a2 = 0 then
        some (a3, M)
      else
        some (a4, M)
    else
      fM_from_b53 (fM_from_b40 a1 a2 z) a1 a2 a3 a4 a5 1000 1 0 M
def fM_from (a1 : Int32) (a2 : Int32) (M : Mem) : Option (Int32 × Mem) :=
  (fM_isSheet a1 M).bind fun w1 =>
  if w1.1 = 0 then
    some ((-2), w1.2)
  else
    (fM_in (a2.toInt64) (0 : Int64) (1 : Int64) w1.2).bind fun w2 =>
    if w2.1 = 0 then
      some ((-2), w2.2)
    else
      if ib a1 4 then
      if (w2.2 109 (ix a1)) = 0 then
        some ((-11), w2.2)
      else
        fM_from_b40 a1 a2 1000 0 (-1) 0 w2.2
      else none
def fM_isSo_b6 (a1 : Int32) (a2 : Int32) : Nat → Int32 → Mem → Option (Int32 × Mem)
  | 0, _, _ => none
  | z + 1, a3, M =>
    if ib a1 4 then
    if (M 111 (ix a1)) ≤ a3 then
      some (1, M)
    else
      (fM_lives a3 M).bind fun M2 =>
      if ib a2 4 then
      if ib ((40 * a1) + a3) 160 then
      if (M2 98 (ix a2)) = (M2 112 (ix ((40 * a1) + a3))) then
        fM_isSo_b6 a1 a2 z (a3 + 1) M2
      else
        some (0, M2)
      else none
      else none
    else none
def fM_isSo (a1 : Int32) (a2 : Int32) (M : Mem) : Option (Int32 × Mem) :=
  (fM_startsOff M).bind fun M1 =>
  fM_isSo_b6 a1 a2 1000 0 M1
def fM_tries_b39 (a2 : Int32) (a3 : Int32) (s0 : Int32) (M : Mem) : Option (Mem) :=
  (fM_lays s0 a2 a3 M).bind fun M1 =>
  some M1
def fM_tries (a1 : Int32) (a2 : Int32) (a3 : Int32) (M : Mem) : Option (Mem) :=
  if a1 = 1 then
    if ib a2 4 then
    some (wr M 92 (ix a2) a3)
    else none
  else
    if a1 = 4 then
      some (wr M 85 4 a3)
    else
      if a1 = 2 then
        fM_tries_b39 a2 a3 4 M
      else
        fM_tries_b39 a2 a3 5 M
def fM_door_b182 (k151 : Int32 → Int32 → Mem → Option (Int32 × Mem)) (a1 : Int32) (a2 : Int32) (a3 : Int32) (a4 : Int32) (a5 : Int32) (a7 : Int32) (s0 : Int32) (s1 : Int32) (M : Mem) : Option (Int32 × Mem) :=
  k151 (s1 ||| (s0 <<< (a7 &&& 31))) (a7 + 1) M
def fM_door_b151 (a1 : Int32) (a2 : Int32) (a3 : Int32) (a4 : Int32) (a5 : Int32) : Nat → Int32 → Int32 → Mem → Option (Int32 × Mem)
  | 0, _, _, _ => none
  | z + 1, a6, a7, M =>
    if a5 ≤ a7 then
      (fM_tries a3 a2 a4 M).bind fun M5 =>
      some (a6, M5)
    else
      (fM_tries a3 a2 a7 M).bind fun M6 =>
      (fM_isSo a1 a2 M6).bind fun w7 =>
      if w7.1 = 0 then
        fM_door_b182 (fM_door_b151 a1 a2 a3 a4 a5 z) a1 a2 a3 a4 a5 a7 0 a6 w7.2
      else
        fM_door_b182 (fM_door_b151 a1 a2 a3 a4 a5 z) a1 a2 a3 a4 a5 a7 1 a6 w7.2
def fM_door_b143 (a1 : Int32) (a2 : Int32) (a3 : Int32) (a4 : Int32) (s0 : Int32) (M : Mem) : Option (Int32 × Mem) :=
  fM_door_b151 a1 a2 a3 a4 s0 1000 0 0 M
def fM_door_b107 (a1 : Int32) (a2 : Int32) (a3 : Int32) (s0 : Int32) (M : Mem) : Option (Int32 × Mem) :=
  if a3 = 1 then
    fM_door_b143 a1 a2 a3 s0 6 M
  else
    if a3 = 2 then
      fM_door_b143 a1 a2 a3 s0 10 M
    else
      if a3 = 3 then
        fM_door_b143 a1 a2 a3 s0 8 M
      else
        fM_door_b143 a1 a2 a3 s0 (M 85 3) M
def fM_door (a1 : Int32) (a2 : Int32) (a3 : Int32) (M : Mem) : Option (Int32 × Mem) :=
  (fM_isSheet a1 M).bind fun w1 =>
  if w1.1 = 0 then
    some ((-2), w1.2)
  else
    (fM_isMaid a2 w1.2).bind fun w2 =>
    if w2.1 = 0 then
      some ((-2), w2.2)
    else
      (fM_in (a3.toInt64) (0 : Int64) (4 : Int64) w2.2).bind fun w3 =>
      if w3.1 = 0 then
        some ((-2), w3.2)
      else
        if ib a1 4 then
        if (w3.2 109 (ix a1)) = 0 then
          some ((-11), w3.2)
        else
          if a3 = 0 then
            (fM_isSo a1 a2 w3.2).bind fun w4 =>
            if w4.1 = 0 then
              some (0, w4.2)
            else
              some (1, w4.2)
          else
            if a3 = 1 then
              if ib a2 4 then
              fM_door_b107 a1 a2 a3 (w3.2 92 (ix a2)) w3.2
              else none
            else
              if a3 = 2 then
                if ib a2 4 then
                fM_door_b107 a1 a2 a3 (w3.2 93 (ix a2)) w3.2
                else none
              else
                if a3 = 3 then
                  if ib a2 4 then
                  fM_door_b107 a1 a2 a3 (w3.2 94 (ix a2)) w3.2
                  else none
                else
                  fM_door_b107 a1 a2 a3 (w3.2 85 4) w3.2
        else none
def fM_sheet_b77 (a1 : Int32) (a2 : Int32) (a3 : Int32) : Nat → Int32 → Mem → Option (Int32 × Mem)
  | 0, _, _ => none
  | z + 1, a4, M =>
    if a3 ≤ a4 then
      some (1, M)
    else
      if a2 < 0 then
        some (1, M)
      else
        if ib ((40 * a1) + a4) 160 then
        fM_sheet_b77 a1 a2 a3 z (a4 + 1) (wr M 112 (ix ((40 * a1) + a4)) 0)
        else none
def fM_sheet_b59 (a1 : Int32) (a2 : Int32) (a3 : Int32) (s0 : Int32) (s1 : Int32) (M : Mem) : Option (Int32 × Mem) :=
  if ib s1 4 then
  if ib a1 4 then
  if ib a1 4 then
  fM_sheet_b77 a1 a2 a3 1000 0 (wr (wr (wr M 109 (ix s1) (vp_nar .boolean s0)) 110 (ix a1) a2) 111 (ix a1) a3)
  else none
  else none
  else none
def fM_sheet_b45 (a1 : Int32) (a2 : Int32) (a3 : Int32) (M : Mem) : Option (Int32 × Mem) :=
  if a2 < 0 then
    fM_sheet_b59 a1 a2 a3 0 a1 M
  else
    fM_sheet_b59 a1 a2 a3 1 a1 M
def fM_sheet_b34 (a1 : Int32) (a2 : Int32) (a3 : Int32) (M : Mem) : Option (Int32 × Mem) :=
  if a2 < 0 then
    fM_sheet_b45 a1 a2 a3 M
  else
    if 0 ≤ a3 then
      fM_sheet_b45 a1 a2 a3 M
    else
      some ((-14), M)
def fM_sheet (a1 : Int32) (a2 : Int32) (a3 : Int32) (M : Mem) : Option (Int32 × Mem) :=
  (fM_isSheet a1 M).bind fun w1 =>
  if w1.1 = 0 then
    some ((-2), w1.2)
  else
    (fM_in (a2.toInt64) (-1 : Int64) (2 : Int64) w1.2).bind fun w2 =>
    if w2.1 = 0 then
      some ((-2), w2.2)
    else
      if a2 < 0 then
        fM_sheet_b34 a1 a2 a3 w2.2
      else
        if a3 ≤ 40 then
          fM_sheet_b34 a1 a2 a3 w2.2
        else
          some ((-2), w2.2)
def fM_film_b93 (k50 : Int32 → Mem → Option (Int32 × Mem)) (a1 : Int32) (a2 : Int32) (a3 : Int32) (a4 : Int32) (s0 : Int32) (s1 : Int32) (M : Mem) : Option (Int32 × Mem) :=
  if ib s1 160 then
  k50 (a4 + 1) (wr M 112 (ix s1) s0)
  else none
def fM_film_b50 (a1 : Int32) (a2 : Int32) (a3 : Int32) : Nat → Int32 → Mem → Option (Int32 × Mem)
  | 0, _, _ => none
  | z + 1, a4, M =>
    if a3 ≤ a4 then
      some (a3, M)
    else
      (fM_lives a4 M).bind fun M5 =>
      if a2 = (-1) then
        (fM_masterIn a4 M5).bind fun w6 =>
        fM_film_b93 (fM_film_b50 a1 a2 a3 z) a1 a2 a3 a4 w6.1 ((40 * a1) + a4) w6.2
      else
        if ib a2 4 then
        fM_film_b93 (fM_film_b50 a1 a2 a3 z) a1 a2 a3 a4 (M5 98 (ix a2)) ((40 * a1) + a4) M5
        else none
def fM_film_b20 (a1 : Int32) (a2 : Int32) (a3 : Int32) (M : Mem) : Option (Int32 × Mem) :=
  (fM_in (a3.toInt64) (0 : Int64) (40 : Int64) M).bind fun w2 =>
  if w2.1 = 0 then
    some ((-2), w2.2)
  else
    (fM_sheet a1 0 a3 w2.2).bind fun w3 =>
    (fM_startsOff w3.2).bind fun M4 =>
    fM_film_b50 a1 a2 a3 1000 0 M4
def fM_film (a1 : Int32) (a2 : Int32) (a3 : Int32) (M : Mem) : Option (Int32 × Mem) :=
  (fM_isSheet a1 M).bind fun w1 =>
  if w1.1 = 0 then
    some ((-2), w1.2)
  else
    if a2 = (-1) then
      fM_film_b20 a1 a2 a3 w1.2
    else
      (fM_isMaid a2 w1.2).bind fun w7 =>
      if w7.1 = 0 then
        some ((-2), w7.2)
      else
        fM_film_b20 a1 a2 a3 w7.2
def fM_draws_b63 (a3 : Int32) : Nat → Int32 → Mem → Option (Int32 × Mem)
  | 0, _, _ => none
  | z + 1, a4, M =>
    if (M 85 11) ≤ a4 then
      some (a3, M)
    else
      if ib a4 8 then
      if ib a4 8 then
      fM_draws_b63 a3 z (a4 + 1) (wr M 91 (ix a4) (M 106 (ix a4)))
      else none
      else none
def fM_draws_b4 : Nat → Int32 → Int32 → Mem → Option (Int32 × Mem)
  | 0, _, _, _ => none
  | z + 1, a2, a3, M =>
    if (M 85 11) ≤ a3 then
      (fM_dear M).bind fun w1 =>
      fM_draws_b63 w1.1 1000 0 w1.2
    else
      if ib a3 8 then
      if ib a3 8 then
      if ib a3 8 then
      fM_draws_b4 z ((a2 * 1103515245) + 12345) (a3 + 1) (wr (wr M 106 (ix a3) (M 91 (ix a3))) 91 (ix a3) ((((((a2 * 1103515245) + 12345).toUInt32 >>> ((9 : Int32).toUInt32 &&& Int32.toUInt32 31)).toInt32) - ((((a2 * 1103515245) + 12345).toUInt32 >>> ((9 : Int32).toUInt32 &&& Int32.toUInt32 31)).toInt32) / 50 * 50) + 1))
      else none
      else none
      else none
def fM_draws (a1 : Int32) (M : Mem) : Option (Int32 × Mem) :=
  fM_draws_b4 1000 a1 0 M
def fM_drawn (a1 : Int32) (M : Mem) : Option (Int32 × Mem) :=
  (fM_draws a1 M).bind fun w1 =>
  some (w1.1, w1.2)
def fM_chance_b22 (M : Mem) : Option (Int64 × Mem) :=
  some ((-4611686018427387904 : Int64), M)
def fM_chance_b101 (a2 : Int32) (a3 : Int32) (a4 : Int64) : Nat → Int64 → Int64 → Mem → Option (Int64 × Mem)
  | 0, _, _, _ => none
  | z + 1, a6, a8, M =>
    if (lg_cmp a8 (0 : Int64)) = 0 then
      if a3 = 0 then
        if a6 = 0 then none else
        some ((a4 / a6), M)
      else
        if a6 = 0 then none else
        some (((a2.toInt64) / a6), M)
    else
      if a8 = 0 then none else
      fM_chance_b101 a2 a3 a4 z a8 (a6 - a6 / a8 * a8) M
def fM_chance_b84 (k32 : Int64 → Int32 → Mem → Option (Int64 × Mem)) (a1 : Int32) (a2 : Int32) (a3 : Int32) (a6 : Int32) (s0 : Int64) (s1 : Int64) (M : Mem) : Option (Int64 × Mem) :=
  k32 (s1 + s0) (a6 + 1) M
def fM_chance_b32 (a1 : Int32) (a2 : Int32) (a3 : Int32) : Nat → Int64 → Int32 → Mem → Option (Int64 × Mem)
  | 0, _, _, _ => none
  | z + 1, a4, a6, M =>
    if a2 ≤ a6 then
      fM_chance_b101 a2 a3 a4 1000 a4 (a2.toInt64) M
    else
      (fM_draws (a1 + a6) M).bind fun w3 =>
      if ib 0 4 then
      if ib 1 4 then
      if ib 2 4 then
      if ib 3 4 then
      if ((((w3.2 102 (ix 0)) + (w3.2 102 (ix 1))) + (w3.2 102 (ix 2))) + (w3.2 102 (ix 3))) = 0 then
        fM_chance_b84 (fM_chance_b32 a1 a2 a3 z) a1 a2 a3 a6 (1 : Int64) a4 w3.2
      else
        fM_chance_b84 (fM_chance_b32 a1 a2 a3 z) a1 a2 a3 a6 (0 : Int64) a4 w3.2
      else none
      else none
      else none
      else none
def fM_chance (a1 : Int32) (a2 : Int32) (a3 : Int32) (M : Mem) : Option (Int64 × Mem) :=
  (fM_in (a2.toInt64) (1 : Int64) (20 : Int64) M).bind fun w1 =>
  if w1.1 = 0 then
    fM_chance_b22 w1.2
  else
    (fM_in (a3.toInt64) (0 : Int64) (1 : Int64) w1.2).bind fun w2 =>
    if w2.1 = 0 then
      fM_chance_b22 w2.2
    else
      fM_chance_b32 a1 a2 a3 1000 (0 : Int64) 0 w2.2
def fM_image_b112 : Nat → Int32 → Mem → Option (Int32 × Mem)
  | 0, _, _ => none
  | z + 1, a1, M =>
    if 20 ≤ a1 then
      some (((wr (wr (wr (wr M 85 51 (M 85 17)) 85 52 ((wr M 85 51 (M 85 17)) 85 7)) 85 53 ((wr (wr M 85 51 (M 85 17)) 85 52 ((wr M 85 51 (M 85 17)) 85 7)) 85 11)) 85 54 ((wr (wr (wr M 85 51 (M 85 17)) 85 52 ((wr M 85 51 (M 85 17)) 85 7)) 85 53 ((wr (wr M 85 51 (M 85 17)) 85 52 ((wr M 85 51 (M 85 17)) 85 7)) 85 11)) 85 4)) 85 17), (wr (wr (wr (wr M 85 51 (M 85 17)) 85 52 ((wr M 85 51 (M 85 17)) 85 7)) 85 53 ((wr (wr M 85 51 (M 85 17)) 85 52 ((wr M 85 51 (M 85 17)) 85 7)) 85 11)) 85 54 ((wr (wr (wr M 85 51 (M 85 17)) 85 52 ((wr M 85 51 (M 85 17)) 85 7)) 85 53 ((wr (wr M 85 51 (M 85 17)) 85 52 ((wr M 85 51 (M 85 17)) 85 7)) 85 11)) 85 4)))
    else
      if ib a1 20 then
      if ib (12 + a1) 32 then
      fM_image_b112 z (a1 + 1) (wr M 108 (ix (12 + a1)) (M 95 (ix a1)))
      else none
      else none
def fM_image_b58 : Nat → Int32 → Mem → Option (Int32 × Mem)
  | 0, _, _ => none
  | z + 1, a1, M =>
    if 4 ≤ a1 then
      fM_image_b112 1000 0 M
    else
      if ib a1 4 then
      if ib a1 32 then
      if ib a1 4 then
      if ib (4 + a1) 32 then
      if ib a1 4 then
      if ib (8 + a1) 32 then
      fM_image_b58 z (a1 + 1) (wr (wr (wr M 108 (ix a1) (M 93 (ix a1))) 108 (ix (4 + a1)) ((wr M 108 (ix a1) (M 93 (ix a1))) 94 (ix a1))) 108 (ix (8 + a1)) ((wr (wr M 108 (ix a1) (M 93 (ix a1))) 108 (ix (4 + a1)) ((wr M 108 (ix a1) (M 93 (ix a1))) 94 (ix a1))) 96 (ix a1)))
      else none
      else none
      else none
      else none
      else none
      else none
def fM_image_b2 : Nat → Int32 → Mem → Option (Int32 × Mem)
  | 0, _, _ => none
  | z + 1, a1, M =>
    if 8 ≤ a1 then
      fM_image_b58 1000 0 M
    else
      if ib a1 8 then
      if ib a1 24 then
      if ib a1 8 then
      if ib (8 + a1) 24 then
      if ib a1 8 then
      if ib (16 + a1) 24 then
      fM_image_b2 z (a1 + 1) (wr (wr (wr M 107 (ix a1) (M 89 (ix a1))) 107 (ix (8 + a1)) ((wr M 107 (ix a1) (M 89 (ix a1))) 90 (ix a1))) 107 (ix (16 + a1)) ((wr (wr M 107 (ix a1) (M 89 (ix a1))) 107 (ix (8 + a1)) ((wr M 107 (ix a1) (M 89 (ix a1))) 90 (ix a1))) 91 (ix a1)))
      else none
      else none
      else none
      else none
      else none
      else none
def fM_image (M : Mem) : Option (Int32 × Mem) :=
  fM_image_b2 1000 0 M
def fM_back_b123 : Nat → Int32 → Mem → Option (Int32 × Mem)
  | 0, _, _ => none
  | z + 1, a1, M =>
    if 20 ≤ a1 then
      some (((wr (wr (wr (wr M 85 17 (M 85 51)) 85 7 ((wr M 85 17 (M 85 51)) 85 52)) 85 11 ((wr (wr M 85 17 (M 85 51)) 85 7 ((wr M 85 17 (M 85 51)) 85 52)) 85 53)) 85 4 ((wr (wr (wr M 85 17 (M 85 51)) 85 7 ((wr M 85 17 (M 85 51)) 85 52)) 85 11 ((wr (wr M 85 17 (M 85 51)) 85 7 ((wr M 85 17 (M 85 51)) 85 52)) 85 53)) 85 54)) 85 17), (wr (wr (wr (wr M 85 17 (M 85 51)) 85 7 ((wr M 85 17 (M 85 51)) 85 52)) 85 11 ((wr (wr M 85 17 (M 85 51)) 85 7 ((wr M 85 17 (M 85 51)) 85 52)) 85 53)) 85 4 ((wr (wr (wr M 85 17 (M 85 51)) 85 7 ((wr M 85 17 (M 85 51)) 85 52)) 85 11 ((wr (wr M 85 17 (M 85 51)) 85 7 ((wr M 85 17 (M 85 51)) 85 52)) 85 53)) 85 54)))
    else
      if ib (12 + a1) 32 then
      if ib a1 20 then
      fM_back_b123 z (a1 + 1) (wr M 95 (ix a1) (M 108 (ix (12 + a1))))
      else none
      else none
def fM_back_b69 : Nat → Int32 → Mem → Option (Int32 × Mem)
  | 0, _, _ => none
  | z + 1, a1, M =>
    if 4 ≤ a1 then
      fM_back_b123 1000 0 M
    else
      if ib a1 32 then
      if ib a1 4 then
      if ib (4 + a1) 32 then
      if ib a1 4 then
      if ib (8 + a1) 32 then
      if ib a1 4 then
      fM_back_b69 z (a1 + 1) (wr (wr (wr M 93 (ix a1) (M 108 (ix a1))) 94 (ix a1) ((wr M 93 (ix a1) (M 108 (ix a1))) 108 (ix (4 + a1)))) 96 (ix a1) ((wr (wr M 93 (ix a1) (M 108 (ix a1))) 94 (ix a1) ((wr M 93 (ix a1) (M 108 (ix a1))) 108 (ix (4 + a1)))) 108 (ix (8 + a1))))
      else none
      else none
      else none
      else none
      else none
      else none
def fM_back_b13 : Nat → Int32 → Mem → Option (Int32 × Mem)
  | 0, _, _ => none
  | z + 1, a1, M =>
    if 8 ≤ a1 then
      fM_back_b69 1000 0 M
    else
      if ib a1 24 then
      if ib a1 8 then
      if ib (8 + a1) 24 then
      if ib a1 8 then
      if ib (16 + a1) 24 then
      if ib a1 8 then
      fM_back_b13 z (a1 + 1) (wr (wr (wr M 89 (ix a1) (M 107 (ix a1))) 90 (ix a1) ((wr M 89 (ix a1) (M 107 (ix a1))) 107 (ix (8 + a1)))) 91 (ix a1) ((wr (wr M 89 (ix a1) (M 107 (ix a1))) 90 (ix a1) ((wr M 89 (ix a1) (M 107 (ix a1))) 107 (ix (8 + a1)))) 107 (ix (16 + a1))))
      else none
      else none
      else none
      else none
      else none
      else none
def fM_back (M : Mem) : Option (Int32 × Mem) :=
  if (M 85 51) = (-1) then
    some ((-3), M)
  else
    fM_back_b13 1000 0 M
def fM_count_b89 : Nat → Int32 → Int32 → Mem → Option (Int32 × Mem)
  | 0, _, _, _ => none
  | z + 1, a2, a3, M =>
    if 8 ≤ a3 then
      some (a2, M)
    else
      if ib a3 8 then
      fM_count_b89 z (a2 + (M 89 (ix a3))) (a3 + 1) M
      else none
def fM_count (a1 : Int32) (M : Mem) : Option (Int32 × Mem) :=
  (fM_in (a1.toInt64) (0 : Int64) (6 : Int64) M).bind fun w1 =>
  if w1.1 = 0 then
    some ((-2), w1.2)
  else
    if 6 ≤ a1 then
      fM_count_b89 1000 0 0 w1.2
    else
      if a1 = 0 then
        some ((w1.2 85 17), w1.2)
      else
        if a1 = 1 then
          some ((w1.2 85 11), w1.2)
        else
          if a1 = 2 then
            some ((w1.2 85 7), w1.2)
          else
            if a1 = 3 then
              some ((w1.2 85 3), w1.2)
            else
              if a1 = 4 then
                some ((w1.2 85 6), w1.2)
              else
                some ((w1.2 85 4), w1.2)
def fM_cell_b83 (s0 : Int32) (s1 : Int32) (M : Mem) : Option (Int32 × Mem) :=
  if ib s1 160 then
  some (1, (wr M 112 (ix s1) s0))
  else none
def fM_cell (a1 : Int32) (a2 : Int32) (a3 : Int32) (M : Mem) : Option (Int32 × Mem) :=
  (fM_isSheet a1 M).bind fun w1 =>
  if w1.1 = 0 then
    some ((-2), w1.2)
  else
    if ib a1 4 then
    if (w1.2 109 (ix a1)) = 0 then
      some ((-11), w1.2)
    else
      if ib a1 4 then
      (fM_in (a2.toInt64) (0 : Int64) (((w1.2 111 (ix a1)) - 1).toInt64) w1.2).bind fun w2 =>
      if w2.1 = 0 then
        some ((-12), w2.2)
      else
        if ib a1 4 then
        if (w2.2 110 (ix a1)) = 0 then
          fM_cell_b83 (a3.toInt8.toInt32) ((40 * a1) + a2) w2.2
        else
          if ib a1 4 then
          if (w2.2 110 (ix a1)) = 1 then
            fM_cell_b83 (a3.toInt16.toInt32) ((40 * a1) + a2) w2.2
          else
            fM_cell_b83 a3 ((40 * a1) + a2) w2.2
          else none
        else none
      else none
    else none
def fM_copy_b145 (k121 : Int32 → Mem → Option (Int32 × Mem)) (a1 : Int32) (a2 : Int32) (a3 : Int32) (a4 : Int32) (a5 : Int32) (a6 : Int32) (a7 : Int32) (s0 : Int32) (M : Mem) : Option (Int32 × Mem) :=
  if ib (((40 * a1) + a2) + s0) 160 then
  if ib (((40 * a3) + a4) + s0) 160 then
  k121 (a7 + 1) (wr M 112 (ix (((40 * a3) + a4) + s0)) (M 112 (ix (((40 * a1) + a2) + s0))))
  else none
  else none
def fM_copy_b121 (a1 : Int32) (a2 : Int32) (a3 : Int32) (a4 : Int32) (a5 : Int32) (a6 : Int32) : Nat → Int32 → Mem → Option (Int32 × Mem)
  | 0, _, _ => none
  | z + 1, a7, M =>
    if a5 ≤ a7 then
      some (a5, M)
    else
      if a6 = 0 then
        fM_copy_b145 (fM_copy_b121 a1 a2 a3 a4 a5 a6 z) a1 a2 a3 a4 a5 a6 a7 a7 M
      else
        fM_copy_b145 (fM_copy_b121 a1 a2 a3 a4 a5 a6 z) a1 a2 a3 a4 a5 a6 a7 ((a5 - 1) - a7) M
def fM_copy_b116 (a1 : Int32) (a2 : Int32) (a3 : Int32) (a4 : Int32) (a5 : Int32) (s0 : Int32) (M : Mem) : Option (Int32 × Mem) :=
  fM_copy_b121 a1 a2 a3 a4 a5 s0 1000 0 M
def fM_copy_b115 (a1 : Int32) (a2 : Int32) (a3 : Int32) (a4 : Int32) (a5 : Int32) (M : Mem) : Option (Int32 × Mem) :=
  fM_copy_b116 a1 a2 a3 a4 a5 0 M
def fM_copy (a1 : Int32) (a2 : Int32) (a3 : Int32) (a4 : Int32) (a5 : Int32) (M : Mem) : Option (Int32 × Mem) :=
  (fM_isSheet a1 M).bind fun w1 =>
  if w1.1 = 0 then
    some ((-2), w1.2)
  else
    (fM_isSheet a3 w1.2).bind fun w2 =>
    if w2.1 = 0 then
      some ((-2), w2.2)
    else
      if ib a1 4 then
      if (w2.2 109 (ix a1)) = 0 then
        some ((-11), w2.2)
      else
        if ib a3 4 then
        if (w2.2 109 (ix a3)) = 0 then
          some ((-11), w2.2)
        else
          if ib a1 4 then
          if ib a3 4 then
          if (w2.2 110 (ix a1)) = (w2.2 110 (ix a3)) then
            if a5 < 0 then
              some ((-12), w2.2)
            else
              if a2 < 0 then
                some ((-12), w2.2)
              else
                if a4 < 0 then
                  some ((-12), w2.2)
                else
                  if ib a1 4 then
                  if ((w2.2 111 (ix a1)) - a5) < a2 then
                    some ((-12), w2.2)
                  else
                    if ib a3 4 then
                    if a4 ≤ ((w2.2 111 (ix a3)) - a5) then
                      if a1 = a3 then
                        if a4 ≤ a2 then
                          fM_copy_b115 a1 a2 a3 a4 a5 w2.2
                        else
                          fM_copy_b116 a1 a2 a3 a4 a5 1 w2.2
                      else
                        fM_copy_b115 a1 a2 a3 a4 a5 w2.2
                    else
                      some ((-12), w2.2)
                    else none
                  else none
          else
            some ((-13), w2.2)
          else none
          else none
        else none
      else none
def fM_maids_b158 (k75 : Int32 → Int32 → Mem → Option (Int32 × Mem)) (a1 : Int32) (a3 : Int32) (a4 : Int32) (a6 : Int32) (s0 : Int32) (s1 : Int32) (M : Mem) : Option (Int32 × Mem) :=
  k75 (s1 + s0) (a6 + 1) M
def fM_maids_b75 (a1 : Int32) (a3 : Int32) (a4 : Int32) : Nat → Int32 → Int32 → Mem → Option (Int32 × Mem)
  | 0, _, _, _ => none
  | z + 1, a5, a6, M =>
    if a4 ≤ a6 then
      some (a5, M)
    else
      if a3 < 0 then
        some ((-12), M)
      else
        if ib a1 4 then
        if a3 ≤ (((M 111 (ix a1)) - (3 * a6)) - 3) then
          if ib (((40 * a1) + a3) + (3 * a6)) 160 then
          if ib ((((40 * a1) + a3) + (3 * a6)) + 1) 160 then
          if ib ((((40 * a1) + a3) + (3 * a6)) + 2) 160 then
          (fM_maid (M 112 (ix (((40 * a1) + a3) + (3 * a6)))) (M 112 (ix ((((40 * a1) + a3) + (3 * a6)) + 1))) (M 112 (ix ((((40 * a1) + a3) + (3 * a6)) + 2))) M).bind fun w4 =>
          if w4.1 < 0 then
            fM_maids_b158 (fM_maids_b75 a1 a3 a4 z) a1 a3 a4 a6 0 a5 w4.2
          else
            fM_maids_b158 (fM_maids_b75 a1 a3 a4 z) a1 a3 a4 a6 1 a5 w4.2
          else none
          else none
          else none
        else
          some ((-12), M)
        else none
def fM_maids_b57 (a1 : Int32) (a3 : Int32) (a4 : Int32) (M : Mem) : Option (Int32 × Mem) :=
  if ib a1 4 then
  if (M 109 (ix a1)) = 0 then
    some ((-11), M)
  else
    fM_maids_b75 a1 a3 a4 1000 0 0 M
  else none
def fM_maids (a1 : Int32) (a2 : Int32) (a3 : Int32) (a4 : Int32) (M : Mem) : Option (Int32 × Mem) :=
  (fM_isSheet a1 M).bind fun w1 =>
  if w1.1 = 0 then
    some ((-2), w1.2)
  else
    (fM_in (a2.toInt64) (0 : Int64) (2 : Int64) w1.2).bind fun w2 =>
    if w2.1 = 0 then
      some ((-2), w2.2)
    else
      (fM_in (a4.toInt64) (0 : Int64) (4 : Int64) w2.2).bind fun w3 =>
      if w3.1 = 0 then
        some ((-2), w3.2)
      else
        if ib a1 4 then
        if (w3.2 109 (ix a1)) = 0 then
          fM_maids_b57 a1 a3 a4 w3.2
        else
          if ib a1 4 then
          if (w3.2 110 (ix a1)) = a2 then
            fM_maids_b57 a1 a3 a4 w3.2
          else
            some ((-13), w3.2)
          else none
        else none
def fM_over (a0 : Int32) (M : Mem) : Option (Int32 × Mem) :=
  if a0 = 0 then
    some ((-1), M)
  else
    if a0 = 3 then
      some (1, M)
    else
      if a0 = 4 then
        some (2, M)
      else
        some (0, M)
def fM_taken_b51 (a1 : Int32) (a2 : Int32) (a3 : Int32) (M : Mem) : Option (Int32 × Mem) :=
  if a3 = a2 then
    if ib a1 4 then
    some ((M 93 (ix a1)), M)
    else none
  else
    some ((-13), M)
def fM_taken_b33 (a1 : Int32) (a2 : Int32) : Nat → Int32 → Mem → Option (Int32 × Mem)
  | 0, _, _ => none
  | z + 1, a3, M =>
    if a3 = (-1) then
      fM_taken_b51 a1 a2 a3 M
    else
      if a3 = a2 then
        fM_taken_b51 a1 a2 a3 M
      else
        (fM_over a3 M).bind fun w3 =>
        fM_taken_b33 a1 a2 z w3.1 w3.2
def fM_taken (a1 : Int32) (a2 : Int32) (M : Mem) : Option (Int32 × Mem) :=
  (fM_in (a2.toInt64) (0 : Int64) (5 : Int64) M).bind fun w1 =>
  if w1.1 = 0 then
    some ((-2), w1.2)
  else
    (fM_isMaid a1 w1.2).bind fun w2 =>
    if w2.1 = 0 then
      some ((-11), w2.2)
    else
      if ib a1 4 then
      fM_taken_b33 a1 a2 1000 (w2.2 92 (ix a1)) w2.2
      else none
end
section
/-! 10: small facts on ints, rows, loops -/
theorem tI_lt (x : Int32) : x.toInt < 2147483648 := x.toInt_lt
theorem tI_ge (x : Int32) : -2147483648 ≤ x.toInt := x.le_toInt
theorem t_add {a b : Int32} (h1 : -2147483648 ≤ a.toInt + b.toInt) (h2 : a.toInt + b.toInt < 2147483648) : (a + b).toInt = a.toInt + b.toInt := by
  rw [Int32.toInt_add]; exact Int.bmod_eq_of_le h1 h2
theorem t_sub {a b : Int32} (h1 : -2147483648 ≤ a.toInt - b.toInt) (h2 : a.toInt - b.toInt < 2147483648) : (a - b).toInt = a.toInt - b.toInt := by
  rw [Int32.toInt_sub]; exact Int.bmod_eq_of_le h1 h2
theorem t_mul {a b : Int32} (h1 : -2147483648 ≤ a.toInt * b.toInt) (h2 : a.toInt * b.toInt < 2147483648) : (a * b).toInt = a.toInt * b.toInt := by
  rw [Int32.toInt_mul]; exact Int.bmod_eq_of_le h1 h2
theorem t_neg {a : Int32} (h : -2147483648 < a.toInt) : (-a).toInt = -a.toInt := by
  have := tI_lt a
  rw [Int32.toInt_neg]; exact Int.bmod_eq_of_le (by omega) (by omega)
theorem t_lit (n : Nat) (h : n < 2147483648) : (OfNat.ofNat n : Int32).toInt = n := Int32.toInt_ofNat_of_lt h
theorem i_lt {a b : Int32} : a < b ↔ a.toInt < b.toInt := Int32.lt_iff_toInt_lt
theorem i_le {a b : Int32} : a ≤ b ↔ a.toInt ≤ b.toInt := Int32.le_iff_toInt_le
theorem i_eq {a b : Int32} : a = b ↔ a.toInt = b.toInt := Int32.toInt_inj.symm
theorem nI_t {n : Nat} (h : n < 2147483648) : (nI n).toInt = n := nI_toInt h
theorem ix_nI {n : Nat} (h : n < 2147483648) : ix (nI n) = n := by unfold ix; rw [nI_t h]; rfl
theorem ib_nI {n N : Nat} (h : n < N) (hN : N < 2147483648) : ib (nI n) N := by unfold ib; rw [nI_t (by omega)]; omega
theorem of_ib {x : Int32} {N : Nat} (h : ib x N) : x = nI (ix x) ∧ ix x < N := by
  have h1 := h.1
  have h2 := h.2
  have h3 := tI_lt x
  refine ⟨?_, ix_lt h⟩
  rw [i_eq, nI_t (by unfold ix; omega)]
  unfold ix
  omega
theorem nI_ix {x : Int32} (h : 0 ≤ x.toInt) : nI (ix x) = x := by
  have h3 := tI_lt x
  rw [i_eq, nI_t (by unfold ix; omega)]
  unfold ix
  omega
theorem n_le {a b : Nat} (ha : a < 2147483648) (hb : b < 2147483648) : nI a ≤ nI b ↔ a ≤ b := nI_leI ha hb
theorem n_lt {a b : Nat} (ha : a < 2147483648) (hb : b < 2147483648) : nI a < nI b ↔ a < b := nI_ltI ha hb
theorem n_eq {a b : Nat} (ha : a < 2147483648) (hb : b < 2147483648) : nI a = nI b ↔ a = b := nI_eq ha hb
theorem lit_n (n : Nat) : (OfNat.ofNat n : Int32) = nI n := rfl
theorem m1_t : (-1 : Int32).toInt = -1 := by decide
theorem nI_m1 {n : Nat} (h : n < 2147483648) : nI n ≠ -1 := by
  intro z
  rw [i_eq, nI_t h, m1_t] at z
  omega
/-- a truth as an int -/
abbrev bz (p : Prop) [Decidable p] : Int32 := if p then 1 else 0
theorem bz_iff {p q : Prop} [Decidable p] [Decidable q] (h : p ↔ q) : bz p = bz q := by
  by_cases hp : p
  · rw [bz, bz, if_pos hp, if_pos (h.mp hp)]
  · rw [bz, bz, if_neg hp, if_neg (fun z => hp (h.mpr z))]
theorem bz_0 {p : Prop} [Decidable p] : (bz p = 0) = ¬ p := by by_cases h : p <;> simp [h]
theorem bz_1 {p : Prop} [Decidable p] : (bz p = 1) = p := by by_cases h : p <;> simp [h]
theorem bz_01 {p : Prop} [Decidable p] : (bz p = 0 ∨ bz p = 1) = True := by by_cases h : p <;> simp [h]
theorem l_lt {x y : Int64} : x < y ↔ x.toInt < y.toInt := Int64.lt_iff_toInt_lt
theorem l_le {x y : Int64} : x ≤ y ↔ x.toInt ≤ y.toInt := Int64.le_iff_toInt_le
theorem lgc_lt {x y : Int64} : lg_cmp x y < 0 ↔ x.toInt < y.toInt := by
  have h := lg_cmp_ge x y
  rw [l_le, Int32.le_iff_toInt_le] at h
  rw [Int32.lt_iff_toInt_lt]
  rw [show (0 : Int32).toInt = 0 from rfl] at *
  omega
theorem lgc_gt {x y : Int64} : 0 < lg_cmp x y ↔ y.toInt < x.toInt := by
  unfold lg_cmp
  simp only [gt_iff_lt, Int64.lt_iff_toInt_lt, ← Int64.toInt_inj]
  repeat' split
  · simp_all
  · have : ¬ (0 : Int32) < 0 := by decide
    simp only [this, false_iff]; omega
  · have : ¬ (0 : Int32) < -1 := by decide
    simp only [this, false_iff]; omega
theorem lgc_eq0 {x y : Int64} : lg_cmp x y = 0 ↔ x = y := by
  unfold lg_cmp
  simp only [gt_iff_lt, Int64.lt_iff_toInt_lt]
  repeat' split
  · rename_i h; constructor
    · intro z; cases z
    · intro z; subst z; omega
  · simp_all
  · rename_i h; constructor
    · intro z; cases z
    · intro z; exact absurd z h
/-- the two tests of a range -/
theorem fN_within_eq (a n : Int32) (M : Mem) : fN_within a n M = some (bz (0 ≤ a.toInt ∧ a.toInt < n.toInt), M) := by
  unfold fN_within
  simp only [i_lt, i_le, show (0 : Int32).toInt = 0 from rfl]
  by_cases h1 : a.toInt < 0
  · rw [if_pos h1, bz, if_neg (by omega)]
  · rw [if_neg h1]
    by_cases h2 : n.toInt ≤ a.toInt
    · rw [if_pos h2, bz, if_neg (by omega)]
    · rw [if_neg h2, bz, if_pos (by omega)]
theorem fM_in_eq (v a b : Int64) (M : Mem) : fM_in v a b M = some (bz (a.toInt ≤ v.toInt ∧ v.toInt ≤ b.toInt), M) := by
  unfold fM_in
  simp only [lgc_lt, lgc_gt]
  by_cases h1 : v.toInt < a.toInt
  · rw [if_pos h1, bz, if_neg (by omega)]
  · rw [if_neg h1]
    by_cases h2 : b.toInt < v.toInt
    · rw [if_pos h2, bz, if_neg (by omega)]
    · rw [if_neg h2, bz, if_pos (by omega)]
theorem t64 (x : Int32) : x.toInt64.toInt = x.toInt := Int32.toInt_toInt64 x
theorem L0 : (0 : Int64).toInt = 0 := rfl
theorem fM_isRoom_eq (a : Int32) (M : Mem) : fM_isRoom a M = some (bz (0 ≤ a.toInt ∧ a.toInt < 8), M) := by
  unfold fM_isRoom
  rw [fM_in_eq]
  simp only [Option.bind_some, t64, L0, show (7 : Int64).toInt = 7 from rfl, bz_01, if_true]
  rw [bz_iff (show (0 ≤ a.toInt ∧ a.toInt ≤ 7) ↔ (0 ≤ a.toInt ∧ a.toInt < 8) by omega)]
theorem fM_isSheet_eq (a : Int32) (M : Mem) : fM_isSheet a M = some (bz (0 ≤ a.toInt ∧ a.toInt < 4), M) := by
  unfold fM_isSheet
  rw [fM_in_eq]
  simp only [Option.bind_some, t64, L0, show (3 : Int64).toInt = 3 from rfl, bz_01, if_true]
  rw [bz_iff (show (0 ≤ a.toInt ∧ a.toInt ≤ 3) ↔ (0 ≤ a.toInt ∧ a.toInt < 4) by omega)]
theorem fM_isMaid_eq (a : Int32) (M : Mem) (h : 0 ≤ (M 85 17).toInt) : fM_isMaid a M = some (bz (0 ≤ a.toInt ∧ a.toInt < (M 85 17).toInt), M) := by
  unfold fM_isMaid
  rw [fM_in_eq]
  have h1 := tI_lt (M 85 17)
  have e : (M 85 17 - 1).toInt = (M 85 17).toInt - 1 := by
    have e1 : (1 : Int32).toInt = 1 := rfl
    rw [t_sub (by omega) (by omega), e1]
  simp only [Option.bind_some, t64, L0, e, bz_01, if_true]
  rw [bz_iff (show (0 ≤ a.toInt ∧ a.toInt ≤ (M 85 17).toInt - 1) ↔ (0 ≤ a.toInt ∧ a.toInt < (M 85 17).toInt) by omega)]
theorem fM_isStay_eq (a : Int32) (M : Mem) (h : 0 ≤ (M 85 11).toInt) : fM_isStay a M = some (bz (0 ≤ a.toInt ∧ a.toInt < (M 85 11).toInt), M) := by
  unfold fM_isStay
  rw [fM_in_eq]
  have h1 := tI_lt (M 85 11)
  have e : (M 85 11 - 1).toInt = (M 85 11).toInt - 1 := by
    have e1 : (1 : Int32).toInt = 1 := rfl
    rw [t_sub (by omega) (by omega), e1]
  simp only [Option.bind_some, t64, L0, e, bz_01, if_true]
  rw [bz_iff (show (0 ≤ a.toInt ∧ a.toInt ≤ (M 85 11).toInt - 1) ↔ (0 ≤ a.toInt ∧ a.toInt < (M 85 11).toInt) by omega)]
end
section
/-! 11: the master -/
def sumF (g : Nat → Int32) : Nat → Nat → Int32 → Int32
  | 0, _, acc => acc
  | c + 1, i, acc => sumF g c (i + 1) (acc + g i)
def scanF (r m : Nat → Int32) : Nat → Nat → Int32 → Int32
  | 0, _, _ => -1
  | c + 1, i, left => if m i ≤ left then scanF r m c (i + 1) (left - m i) else r i
def mst (n : Nat) (r m : Nat → Int32) (t : Int32) : Int32 :=
  if 0 < sumF m n 0 0 then scanF r m n 0 (t - t / sumF m n 0 0 * sumF m n 0 0) else -1
theorem sumF_congr {g g' : Nat → Int32} : ∀ (c i : Nat) (acc : Int32), (∀ j, i ≤ j → j < i + c → g j = g' j) → sumF g c i acc = sumF g' c i acc
  | 0, _, _, _ => rfl
  | c + 1, i, acc, h => by
    unfold sumF
    rw [h i (Nat.le_refl _) (by omega)]
    exact sumF_congr c (i + 1) _ (fun j h1 h2 => h j (by omega) (by omega))
theorem scanF_congr {r m r' m' : Nat → Int32} : ∀ (c i : Nat) (left : Int32), (∀ j, i ≤ j → j < i + c → r j = r' j ∧ m j = m' j) → scanF r m c i left = scanF r' m' c i left
  | 0, _, _, _ => rfl
  | c + 1, i, left, h => by
    unfold scanF
    rw [(h i (Nat.le_refl _) (by omega)).1, (h i (Nat.le_refl _) (by omega)).2, scanF_congr c (i + 1) _ (fun j h1 h2 => h j (by omega) (by omega))]
theorem mst_congr {n : Nat} {r m r' m' : Nat → Int32} (t : Int32) (h : ∀ j, j < n → r j = r' j ∧ m j = m' j) : mst n r m t = mst n r' m' t := by
  unfold mst
  rw [sumF_congr (g := m) (g' := m') n 0 0 (fun j _ h2 => (h j (by omega)).2), scanF_congr n 0 _ (fun j _ h2 => h j (by omega))]
/-- the stays' minutes are 1 to 50 -/
def okMin (n : Nat) (m : Nat → Int32) : Prop := n ≤ 8 ∧ ∀ i, i < n → 1 ≤ (m i).toInt ∧ (m i).toInt ≤ 50
theorem sumF_bd {g : Nat → Int32} : ∀ (c i : Nat) (acc : Int32), (∀ j, i ≤ j → j < i + c → 1 ≤ (g j).toInt ∧ (g j).toInt ≤ 50) → 0 ≤ acc.toInt → acc.toInt + 50 * c ≤ 1000 → acc.toInt + c ≤ (sumF g c i acc).toInt ∧ (sumF g c i acc).toInt ≤ acc.toInt + 50 * c
  | 0, _, acc, _, _, _ => by unfold sumF; omega
  | c + 1, i, acc, h, h0, h1 => by
    unfold sumF
    have hi := h i (Nat.le_refl _) (by omega)
    have e : (acc + g i).toInt = acc.toInt + (g i).toInt := t_add (by omega) (by omega)
    have := sumF_bd c (i + 1) (acc + g i) (fun j h2 h3 => h j (by omega) (by omega)) (by omega) (by omega)
    omega
theorem sumF_acc {g : Nat → Int32} : ∀ (c i : Nat) (acc : Int32), sumF g c i acc = acc + sumF g c i 0
  | 0, _, acc => by unfold sumF; simp
  | c + 1, i, acc => by
    unfold sumF
    rw [sumF_acc c (i + 1) (acc + g i), sumF_acc c (i + 1) (0 + g i)]
    rw [Int32.zero_add, Int32.add_assoc]
theorem rem_nI {t R : Int32} (hR : 0 < R.toInt) (ht : 0 ≤ t.toInt) : t - t / R * R = nI (ix t % ix R) := by
  have h1 := tI_lt t
  have h2 := tI_lt R
  have h3 := pk_rem (a := ix t) (d := ix R) (by unfold ix; omega) (by unfold ix; omega) (by unfold ix; omega)
  rw [nI_ix ht, nI_ix (by omega)] at h3
  exact h3
theorem rem_bd {t R : Int32} (hR : 0 < R.toInt) (ht : 0 ≤ t.toInt) : 0 ≤ (t - t / R * R).toInt ∧ (t - t / R * R).toInt < R.toInt := by
  have h2 := tI_lt R
  have hp : 0 < ix R := by unfold ix; omega
  have hm := Nat.mod_lt (ix t) hp
  rw [rem_nI hR ht, nI_t (by unfold ix at hm ⊢; omega)]
  unfold ix at hm ⊢
  omega
theorem fH_masterIn_b40_eq {h n : Nat} {M : Mem} (hn : M h 1 = nI n) (hk : n ≤ 8) : ∀ (c i : Nat) (left : Int32) (z : Nat), i + c = n → c < z → fH_masterIn_b40 h z left (nI i) M = some (scanF (M (h + 1)) (M (h + 2)) c i left, M) := by
  intro c
  induction c with
  | zero =>
    intro i left z hi hz
    obtain ⟨z, rfl⟩ := Nat.exists_eq_succ_of_ne_zero (show z ≠ 0 by omega)
    rw [fH_masterIn_b40, if_pos (by rw [hn, n_le (by omega) (by omega)]; omega)]
    rfl
  | succ c ih =>
    intro i left z hi hz
    obtain ⟨z, rfl⟩ := Nat.exists_eq_succ_of_ne_zero (show z ≠ 0 by omega)
    have hb : ib (nI i) 8 := ib_nI (by omega) (by omega)
    rw [fH_masterIn_b40, if_neg (by rw [hn, n_le (by omega) (by omega)]; omega)]
    simp only [if_pos hb, ix_nI (show i < 2147483648 by omega)]
    rw [scanF]
    by_cases hc : M (h + 2) i ≤ left
    · rw [if_pos hc, if_pos hc, nI_1]
      exact ih (i + 1) _ z (by omega) (by omega)
    · rw [if_neg hc, if_neg hc]
theorem fH_masterIn_b4_eq {h n : Nat} {M : Mem} (t : Int32) (hn : M h 1 = nI n) (hk : n ≤ 8) : ∀ (c i : Nat) (acc : Int32) (z : Nat), i + c = n → c < z → fH_masterIn_b4 h t z acc (nI i) M = if 0 < sumF (M (h + 2)) c i acc then some (scanF (M (h + 1)) (M (h + 2)) n 0 (t - t / sumF (M (h + 2)) c i acc * sumF (M (h + 2)) c i acc), M) else some (-1, M) := by
  intro c
  induction c with
  | zero =>
    intro i acc z hi hz
    obtain ⟨z, rfl⟩ := Nat.exists_eq_succ_of_ne_zero (show z ≠ 0 by omega)
    rw [fH_masterIn_b4, if_pos (by rw [hn, n_le (by omega) (by omega)]; omega)]
    show _ = if 0 < acc then _ else _
    by_cases ha : 0 < acc
    · rw [if_pos ha, if_pos ha, if_neg (by rw [i_lt] at ha; rw [i_eq]; omega)]
      exact fH_masterIn_b40_eq hn hk n 0 _ 1000 (by omega) (by omega)
    · rw [if_neg ha, if_neg ha]
  | succ c ih =>
    intro i acc z hi hz
    obtain ⟨z, rfl⟩ := Nat.exists_eq_succ_of_ne_zero (show z ≠ 0 by omega)
    have hb : ib (nI i) 8 := ib_nI (by omega) (by omega)
    rw [fH_masterIn_b4, if_neg (by rw [hn, n_le (by omega) (by omega)]; omega)]
    simp only [if_pos hb, ix_nI (show i < 2147483648 by omega), nI_1]
    exact ih (i + 1) _ z (by omega) (by omega)
theorem fH_masterIn_eq {h n : Nat} {M : Mem} (t : Int32) (hn : M h 1 = nI n) (hk : n ≤ 8) : fH_masterIn h t M = some (mst n (M (h + 1)) (M (h + 2)) t, M) := by
  unfold fH_masterIn mst
  have := fH_masterIn_b4_eq t hn hk n 0 0 1000 (by omega) (by omega)
  rw [show fH_masterIn_b4 h t 1000 0 0 M = fH_masterIn_b4 h t 1000 0 (nI 0) M from rfl, this]
  by_cases hc : 0 < sumF (M (h + 2)) n 0 0
  · rw [if_pos hc, if_pos hc]
  · rw [if_neg hc, if_neg hc]
theorem fM_masterIn_b40_eq {n : Nat} {M : Mem} (hk : okMin n (M 91)) : ∀ (c i : Nat) (left : Int32) (z : Nat), i + c = n → c < z → 0 ≤ left.toInt → left.toInt < (sumF (M 91) c i 0).toInt → fM_masterIn_b40 z left (nI i) M = some (scanF (M 90) (M 91) c i left, M) := by
  intro c
  induction c with
  | zero =>
    intro i left z hi hz h0 h1
    unfold sumF at h1
    have : (0 : Int32).toInt = 0 := rfl
    omega
  | succ c ih =>
    intro i left z hi hz h0 h1
    obtain ⟨z, rfl⟩ := Nat.exists_eq_succ_of_ne_zero (show z ≠ 0 by omega)
    have hi8 := hk.1
    have hm := hk.2 i (by omega)
    have hb : ib (nI i) 8 := ib_nI (by omega) (by omega)
    rw [fM_masterIn_b40]
    simp only [if_pos hb, ix_nI (show i < 2147483648 by omega)]
    rw [scanF]
    by_cases hc : M 91 i ≤ left
    · rw [if_pos hc, if_neg (by rw [i_lt]; rw [i_le] at hc; omega), nI_1]
      rw [i_le] at hc
      have e : (left - M 91 i).toInt = left.toInt - (M 91 i).toInt := t_sub (by have := tI_lt left; omega) (by have := tI_lt left; omega)
      refine ih (i + 1) _ z (by omega) (by omega) (by omega) ?_
      unfold sumF at h1
      rw [sumF_acc] at h1
      have hb2 := sumF_bd (g := M 91) c (i + 1) 0 (fun j h2 h3 => hk.2 j (by omega)) (by show (0 : Int) ≤ 0; omega) (by show (0 : Int) + _ ≤ 1000; omega)
      have z0 : (0 : Int32).toInt = 0 := rfl
      rw [z0] at hb2
      rw [Int32.zero_add, t_add (by omega) (by omega)] at h1
      omega
    · rw [if_neg hc, if_pos (by rw [i_lt]; rw [i_le] at hc; omega)]
theorem fM_masterIn_b4_eq {n : Nat} {M : Mem} (t : Int32) (ht : 0 ≤ t.toInt) (hn : M 85 11 = nI n) (hk : okMin n (M 91)) : ∀ (c i : Nat) (acc : Int32) (z : Nat), i + c = n → c < z → sumF (M 91) c i acc = sumF (M 91) n 0 0 → fM_masterIn_b4 t z acc (nI i) M = some (mst n (M 90) (M 91) t, M) := by
  have hk8 := hk.1
  intro c
  induction c with
  | zero =>
    intro i acc z hi hz hs
    obtain ⟨z, rfl⟩ := Nat.exists_eq_succ_of_ne_zero (show z ≠ 0 by omega)
    rw [fM_masterIn_b4, if_pos (by rw [hn, n_le (by omega) (by omega)]; omega)]
    have hs : acc = sumF (M 91) n 0 0 := hs
    unfold mst
    rw [← hs]
    have hb2 := sumF_bd (g := M 91) n 0 0 (fun j h2 h3 => hk.2 j (by omega)) (by show (0 : Int) ≤ 0; omega) (by show (0 : Int) + _ ≤ 1000; omega)
    rw [← hs] at hb2
    have z0 : (0 : Int32).toInt = 0 := rfl
    rw [z0] at hb2
    by_cases ha : acc = 0
    · rw [if_pos ha, if_neg (by rw [ha]; decide)]
    · have ha' : 0 < acc.toInt := by rw [i_eq, z0] at ha; omega
      rw [if_neg ha, if_neg ha, if_pos (by rw [i_lt]; exact ha')]
      have hr := rem_bd ha' ht
      exact fM_masterIn_b40_eq hk n 0 _ 1000 (by omega) (by omega) hr.1 (by rw [← hs]; exact hr.2)
  | succ c ih =>
    intro i acc z hi hz hs
    obtain ⟨z, rfl⟩ := Nat.exists_eq_succ_of_ne_zero (show z ≠ 0 by omega)
    have hb : ib (nI i) 8 := ib_nI (by omega) (by omega)
    rw [fM_masterIn_b4, if_neg (by rw [hn, n_le (by omega) (by omega)]; omega)]
    simp only [if_pos hb, ix_nI (show i < 2147483648 by omega), nI_1]
    exact ih (i + 1) _ z (by omega) (by omega) hs
theorem fM_masterIn_eq {n : Nat} {M : Mem} (t : Int32) (ht : 0 ≤ t.toInt) (hn : M 85 11 = nI n) (hk : okMin n (M 91)) : fM_masterIn t M = some (mst n (M 90) (M 91) t, M) :=
  fM_masterIn_b4_eq t ht hn hk n 0 0 1000 (by omega) (by have := hk.1; omega) rfl
end
section
/-! 12: ways: FAR and NEXT of both sides -/
def zM : Mem := fun _ _ => 0
def farI (s a b : Int32) : Int32 := ((fY_far s a b zM).map (fun q => q.1)).getD 0
theorem fY_far_eq (s a b : Int32) (M : Mem) : fY_far s a b M = some (farI s a b, M) := by
  unfold farI fY_far fY_far_b48 fY_far_b67
  by_cases h1 : a / 4 = b / 4
  · simp only [if_pos h1, Option.map_some, Option.getD_some]
  · by_cases h2 : s &&& 1 = 0
    · by_cases h3 : s &&& 2 = 0
      · simp only [if_neg h1, if_pos h2, if_pos h3, Option.map_some, Option.getD_some]
      · simp only [if_neg h1, if_pos h2, if_neg h3, Option.map_some, Option.getD_some]
    · by_cases h3 : s &&& 2 = 0
      · simp only [if_neg h1, if_neg h2, if_pos h3, Option.map_some, Option.getD_some]
      · simp only [if_neg h1, if_neg h2, if_neg h3, Option.map_some, Option.getD_some]
theorem fY_nextRoom_b9_z (s a b : Int32) (M : Mem) : ∀ (z : Nat) (x y i : Int32), fY_nextRoom_b9 s a b z x y i M = (fY_nextRoom_b9 s a b z x y i zM).map (fun q => (q.1, M)) := by
  intro z
  induction z with
  | zero => intro x y i; rfl
  | succ z ih =>
    intro x y i
    rw [fY_nextRoom_b9, fY_nextRoom_b9]
    simp only [fY_far_eq, Option.bind_some, fY_nextRoom_b62, fY_nextRoom_b56]
    by_cases h1 : 8 ≤ i
    · simp only [if_pos h1, Option.map_some]
    · by_cases h2 : a = b
      · simp only [if_neg h1, if_pos h2, Option.map_some]
      · by_cases h3 : farI s a i = 1
        · by_cases h4 : y ≤ farI s i b
          · simp only [if_neg h1, if_neg h2, if_pos h3, if_pos h4, ih]
          · simp only [if_neg h1, if_neg h2, if_pos h3, if_neg h4]
            rw [ih]
        · simp only [if_neg h1, if_neg h2, if_neg h3]
          rw [ih]
/-- NEXT, by the stairs -/
def nxt (s a b : Nat) : Int32 := ((fY_nextRoom (nI s) (nI a) (nI b) zM).map (fun q => q.1)).getD 0
theorem nxt_some : ∀ s, s < 4 → ∀ a, a < 8 → ∀ b, b < 8 → (fY_nextRoom (nI s) (nI a) (nI b) zM).isSome = true := by decide +kernel
theorem fY_nextRoom_eq {s a b : Nat} (M : Mem) (hs : s < 4) (ha : a < 8) (hb : b < 8) : fY_nextRoom (nI s) (nI a) (nI b) M = some (nxt s a b, M) := by
  have h := nxt_some s hs a ha b hb
  unfold nxt
  unfold fY_nextRoom at h ⊢
  rw [fY_nextRoom_b9_z]
  cases hq : fY_nextRoom_b9 (nI s) (nI a) (nI b) 1000 (-1) 8 0 zM with
  | none => rw [hq] at h; cases h
  | some q => simp
/-- NEXT is none or one of the rooms -/
theorem nxt_bd : ∀ s, s < 4 → ∀ a, a < 8 → ∀ b, b < 8 → nxt s a b = -1 ∨ (0 ≤ (nxt s a b).toInt ∧ (nxt s a b).toInt < 8) := by decide +kernel
def layM (s : Nat) (M : Mem) : Mem := fun a b => if a = 46 ∧ b = 1 then nI s else if a = 47 ∧ b < 64 then nxt s (b / 8) (b % 8) else M a b
/-- what the class's table of ways holds -/
def LW (M : Mem) : Prop := ∀ s, s < 4 → M 46 1 = nI s → ∀ i, i < 64 → M 47 i = nxt s (i / 8) (i % 8)
def layP (s k : Nat) (M : Mem) : Mem := fun a b => if a = 47 ∧ b < k then nxt s (b / 8) (b % 8) else M a b
theorem fY_lay_b11_eq {s : Nat} {M : Mem} (hs : s < 4) : ∀ (c k z : Nat), k + c = 64 → c < z → fY_lay_b11 (nI s) z (nI k) (layP s k M) = some (layM s M) := by
  intro c
  induction c with
  | zero =>
    intro k z hk hz
    obtain ⟨z, rfl⟩ := Nat.exists_eq_succ_of_ne_zero (show z ≠ 0 by omega)
    have e : k = 64 := by omega
    subst e
    rw [fY_lay_b11, if_pos (by decide)]
    rfl
  | succ c ih =>
    intro k z hk hz
    obtain ⟨z, rfl⟩ := Nat.exists_eq_succ_of_ne_zero (show z ≠ 0 by omega)
    have d8 : nI k / 8 = nI (k / 8) := pk_div (a := k) (d := 8) (by omega) (by omega) (by omega)
    have r8 : nI k - nI k / 8 * 8 = nI (k % 8) := pk_rem (a := k) (d := 8) (by omega) (by omega) (by omega)
    rw [fY_lay_b11, if_neg (by rw [show (64 : Int32) = nI 64 from rfl, n_le (by omega) (by omega)]; omega), r8, d8, fY_nextRoom_eq _ hs (by omega) (by omega)]
    simp only [Option.bind_some, if_pos (ib_nI (show k < 64 by omega) (by omega)), nI_1, ix_nI (show k < 2147483648 by omega)]
    have e : wr (layP s k M) 47 k (nxt s (k / 8) (k % 8)) = layP s (k + 1) M := by
      funext a b
      unfold wr layP
      by_cases h1 : a = 47 ∧ b = k
      · rw [if_pos h1, if_pos ⟨h1.1, by omega⟩, h1.2]
      · rw [if_neg h1]
        by_cases h2 : a = 47 ∧ b < k
        · rw [if_pos h2, if_pos ⟨h2.1, by omega⟩]
        · rw [if_neg h2, if_neg (by omega)]
    rw [e]
    exact ih (k + 1) z (by omega) (by omega)
theorem fY_lay_eq {s : Nat} {M : Mem} (hs : s < 4) (hw : LW M) : fY_lay (nI s) M = some (layM s M) := by
  unfold fY_lay
  by_cases h : M 46 1 = nI s
  · rw [if_pos h]
    congr 1
    funext a b
    unfold layM
    by_cases h1 : a = 46 ∧ b = 1
    · rw [if_pos h1, h1.1, h1.2, h]
    · rw [if_neg h1]
      by_cases h2 : a = 47 ∧ b < 64
      · rw [if_pos h2, h2.1, hw s hs h b h2.2]
      · rw [if_neg h2]
  · rw [if_neg h]
    have e : M = layP s 0 M := by
      funext a b
      unfold layP
      rw [if_neg (by omega)]
    have := fY_lay_b11_eq (M := M) hs 64 0 1000 (by omega) (by omega)
    rw [← e] at this
    exact this
theorem layM_LW {s : Nat} {M : Mem} (hs : s < 4) : LW (layM s M) := by
  intro s' hs' h i hi
  have e : layM s M 46 1 = nI s := by unfold layM; rw [if_pos ⟨rfl, rfl⟩]
  rw [e] at h
  have := (n_eq (by omega) (by omega)).mp h
  subst this
  unfold layM
  rw [if_neg (by omega), if_pos ⟨rfl, hi⟩]
theorem fY_nextLaid_eq {s : Nat} {M : Mem} (hs : s < 4) (h : ∀ i, i < 64 → M 47 i = nxt s (i / 8) (i % 8)) {a : Nat} (ha : a < 8) (b : Int32) (hb : b = -1 ∨ (0 ≤ b.toInt ∧ b.toInt < 8)) : fY_nextLaid (nI a) b M = some (if b = -1 then -1 else nxt s a (ix b), M) := by
  unfold fY_nextLaid
  simp only [fN_within_eq, Option.bind_some, bz_0]
  rw [if_neg (by rw [nI_t (by omega)]; show ¬¬(0 ≤ (a : Int) ∧ (a : Int) < (8 : Int32).toInt); rw [show (8 : Int32).toInt = 8 from rfl]; omega)]
  rcases hb with rfl | hb
  · rw [if_pos (by decide), if_pos rfl]
  · have hlt := hb.2
    rw [if_neg (by rw [show (8 : Int32).toInt = 8 from rfl]; omega)]
    obtain ⟨c, hc, rfl⟩ : ∃ c : Nat, c < 8 ∧ b = nI c := ⟨ix b, by unfold ix; omega, (nI_ix hb.1).symm⟩
    have e : nI a * 8 + nI c = nI (8 * a + c) := by
      rw [show (8 : Int32) = nI 8 from rfl, pk_mul, nI_add, Nat.mul_comm a 8]
    rw [e, if_pos (ib_nI (by omega) (by omega)), ix_nI (by omega), ix_nI (by omega), h _ (by omega), if_neg (nI_m1 (by omega))]
    rw [show (8 * a + c) / 8 = a by omega, show (8 * a + c) % 8 = c by omega]
def ftab : List (List Nat) := [[0, 1, 2, 3, 8, 8, 8, 8, 1, 0, 1, 2, 8, 8, 8, 8, 2, 1, 0, 1, 8, 8, 8, 8, 3, 2, 1, 0, 8, 8, 8, 8, 8, 8, 8, 8, 0, 1, 2, 3, 8, 8, 8, 8, 1, 0, 1, 2, 8, 8, 8, 8, 2, 1, 0, 1, 8, 8, 8, 8, 3, 2, 1, 0], [0, 1, 2, 3, 1, 2, 3, 4, 1, 0, 1, 2, 2, 3, 4, 5, 2, 1, 0, 1, 3, 4, 5, 6, 3, 2, 1, 0, 4, 5, 6, 7, 1, 2, 3, 4, 0, 1, 2, 3, 2, 3, 4, 5, 1, 0, 1, 2, 3, 4, 5, 6, 2, 1, 0, 1, 4, 5, 6, 7, 3, 2, 1, 0], [0, 1, 2, 3, 7, 6, 5, 4, 1, 0, 1, 2, 6, 5, 4, 3, 2, 1, 0, 1, 5, 4, 3, 2, 3, 2, 1, 0, 4, 3, 2, 1, 7, 6, 5, 4, 0, 1, 2, 3, 6, 5, 4, 3, 1, 0, 1, 2, 5, 4, 3, 2, 2, 1, 0, 1, 4, 3, 2, 1, 3, 2, 1, 0], [0, 1, 2, 3, 1, 2, 3, 4, 1, 0, 1, 2, 2, 3, 4, 3, 2, 1, 0, 1, 3, 4, 3, 2, 3, 2, 1, 0, 4, 3, 2, 1, 1, 2, 3, 4, 0, 1, 2, 3, 2, 3, 4, 3, 1, 0, 1, 2, 3, 4, 3, 2, 2, 1, 0, 1, 4, 3, 2, 1, 3, 2, 1, 0]]

/-- BESIDE, by the stairs -/
def bsI (s a b : Int32) : Int32 := ((fM_isBeside a b (wr zM 85 7 s)).map (fun q => q.1)).getD 0
theorem fM_isBeside_eq (a b : Int32) (M : Mem) : fM_isBeside a b M = some (bsI (M 85 7) a b, M) := by
  have e : wr zM 85 7 (M 85 7) 85 7 = M 85 7 := wr_same
  have key : ∀ x y : Int32, fM_isBeside_b21 x y M = (fM_isBeside_b21 x y (wr zM 85 7 (M 85 7))).map (fun q => (q.1, M)) := by
    intro x y
    unfold fM_isBeside_b21 fM_isBeside_b77 fM_isBeside_b64 fM_isBeside_b77
    simp only [e]
    repeat' split
    all_goals rfl
  have k2 : fM_isBeside a b M = (fM_isBeside a b (wr zM 85 7 (M 85 7))).map (fun q => (q.1, M)) := by
    unfold fM_isBeside fM_isBeside_b10
    by_cases h : b ≤ a
    · simp only [if_pos h]; exact key _ _
    · simp only [if_neg h]; exact key _ _
  have k3 : (fM_isBeside a b (wr zM 85 7 (M 85 7))).isSome = true := by
    unfold fM_isBeside fM_isBeside_b10 fM_isBeside_b21 fM_isBeside_b77 fM_isBeside_b64 fM_isBeside_b77
    repeat' split
    all_goals rfl
  rw [k2]
  unfold bsI
  cases hq : fM_isBeside a b (wr zM 85 7 (M 85 7)) with
  | none => rw [hq] at k3; cases k3
  | some q => simp
/-- the table of FAR as the model makes it, over lists -/
def tI (l : List Nat) (i : Nat) : Nat := l.getD i 0
def tbM (l : List Nat) (M : Mem) : Mem := fun a b => if a = 97 ∧ b < 64 then nI (tI l b) else M a b
def g0 (s i : Nat) : Nat := if i / 8 = i % 8 then 0 else if bsI (nI s) (nI (i / 8)) (nI (i % 8)) = 0 then 8 else 1
def g3 (y a : Nat) : Nat → Nat → List Nat → List Nat
  | 0, _, l => l
  | c + 1, b, l => g3 y a c (b + 1) (if tI l (8 * a + b) ≤ tI l (8 * a + y) + tI l (8 * y + b) then l else l.set (8 * a + b) (tI l (8 * a + y) + tI l (8 * y + b)))
def g2 (y : Nat) : Nat → Nat → List Nat → List Nat
  | 0, _, l => l
  | c + 1, a, l => g2 y c (a + 1) (g3 y a 8 0 l)
def g1 : Nat → Nat → List Nat → List Nat
  | 0, _, l => l
  | c + 1, y, l => g1 c (y + 1) (g2 y 8 0 l)
theorem g1_ok : ∀ s, s < 4 → g1 8 0 ((List.range 64).map (g0 s)) = ftab.getD s [] := by decide +kernel
def okL (l : List Nat) : Prop := l.length = 64 ∧ ∀ i, tI l i ≤ 1000
theorem tI_set {l : List Nat} {i j v : Nat} (h : i < l.length) : tI (l.set i v) j = if j = i then v else tI l j := by
  unfold tI
  rw [List.getD_eq_getElem?_getD, List.getD_eq_getElem?_getD, List.getElem?_set]
  by_cases hj : i = j
  · subst hj; simp [h]
  · rw [if_neg hj, if_neg (fun z => hj z.symm)]
theorem fM_gathers_b81_eq {y a : Nat} {M : Mem} (hy : y < 8) (ha : a < 8) (k65 k73 : Int32 → Mem → Option Mem) : ∀ (c b z : Nat) (l : List Nat), b + c = 8 → c < z → okL l → fM_gathers_b81 k65 k73 (nI y) (nI a) z (nI b) (tbM l M) = k73 (nI (a + 1)) (tbM (g3 y a c b l) M) ∧ okL (g3 y a c b l) := by
  intro c
  induction c with
  | zero =>
    intro b z l hb hz ok
    obtain ⟨z, rfl⟩ := Nat.exists_eq_succ_of_ne_zero (show z ≠ 0 by omega)
    have e : b = 8 := by omega
    subst e
    rw [fM_gathers_b81, if_pos (by decide), nI_1]
    exact ⟨rfl, ok⟩
  | succ c ih =>
    intro b z l hb hz ok
    obtain ⟨z, rfl⟩ := Nat.exists_eq_succ_of_ne_zero (show z ≠ 0 by omega)
    have e8 : ∀ p q : Nat, 8 * nI p + nI q = nI (8 * p + q) := fun p q => by rw [show (8 : Int32) = nI 8 from rfl, pk_mul, nI_add]
    have hx : ∀ p q : Nat, p < 8 → q < 8 → tbM l M 97 (8 * p + q) = nI (tI l (8 * p + q)) := fun p q h1 h2 => if_pos ⟨rfl, by omega⟩
    have hi : ∀ p q : Nat, p < 8 → q < 8 → ib (nI (8 * p + q)) 64 := fun p q h1 h2 => ib_nI (by omega) (by omega)
    have h1 := ok.2 (8 * a + y)
    have h2 := ok.2 (8 * y + b)
    have h3 := ok.2 (8 * a + b)
    rw [fM_gathers_b81, if_neg (by rw [show (8 : Int32) = nI 8 from rfl, n_le (by omega) (by omega)]; omega)]
    simp only [e8, if_pos (hi a y ha hy), if_pos (hi y b hy (by omega)), if_pos (hi a b ha (by omega)), ix_nI (show 8 * a + b < 2147483648 by omega), ix_nI (show 8 * a + y < 2147483648 by omega), ix_nI (show 8 * y + b < 2147483648 by omega), hx a b ha (by omega), hx a y ha hy, hx y b hy (by omega), nI_add, fM_gathers_b141, nI_1]
    rw [g3]
    by_cases hc : tI l (8 * a + b) ≤ tI l (8 * a + y) + tI l (8 * y + b)
    · rw [if_pos ((n_le (by omega) (by omega)).mpr hc), if_pos hc]
      exact ih (b + 1) z l (by omega) (by omega) ok
    · rw [if_neg (fun z => hc ((n_le (by omega) (by omega)).mp z)), if_neg hc]
      have e : wr (tbM l M) 97 (8 * a + b) (nI (tI l (8 * a + y) + tI l (8 * y + b))) = tbM (l.set (8 * a + b) (tI l (8 * a + y) + tI l (8 * y + b))) M := by
        funext p q
        unfold wr tbM
        rw [tI_set (by rw [ok.1]; omega)]
        by_cases h4 : p = 97 ∧ q = 8 * a + b
        · rw [if_pos h4, if_pos ⟨h4.1, by omega⟩, if_pos h4.2]
        · rw [if_neg h4]
          by_cases h5 : p = 97 ∧ q < 64
          · rw [if_pos h5, if_pos h5, if_neg (fun z => h4 ⟨h5.1, z⟩)]
          · rw [if_neg h5, if_neg h5]
      rw [e]
      refine ih (b + 1) z _ (by omega) (by omega) ⟨by rw [List.length_set]; exact ok.1, fun i => ?_⟩
      rw [tI_set (by rw [ok.1]; omega)]
      split
      · omega
      · exact ok.2 i
theorem fM_gathers_b73_eq {y : Nat} {M : Mem} (hy : y < 8) (k65 : Int32 → Mem → Option Mem) : ∀ (c a z : Nat) (l : List Nat), a + c = 8 → c < z → okL l → fM_gathers_b73 k65 (nI y) z (nI a) (tbM l M) = k65 (nI (y + 1)) (tbM (g2 y c a l) M) ∧ okL (g2 y c a l) := by
  intro c
  induction c with
  | zero =>
    intro a z l ha hz ok
    obtain ⟨z, rfl⟩ := Nat.exists_eq_succ_of_ne_zero (show z ≠ 0 by omega)
    have e : a = 8 := by omega
    subst e
    rw [fM_gathers_b73, if_pos (by decide), nI_1]
    exact ⟨rfl, ok⟩
  | succ c ih =>
    intro a z l ha hz ok
    obtain ⟨z, rfl⟩ := Nat.exists_eq_succ_of_ne_zero (show z ≠ 0 by omega)
    rw [fM_gathers_b73, if_neg (by rw [show (8 : Int32) = nI 8 from rfl, n_le (by omega) (by omega)]; omega)]
    have h := fM_gathers_b81_eq (M := M) hy (show a < 8 by omega) k65 (fM_gathers_b73 k65 (nI y) z) 8 0 1000 l (by omega) (by omega) ok
    rw [show (0 : Int32) = nI 0 from rfl, h.1]
    exact ih (a + 1) z _ (by omega) (by omega) h.2
theorem fM_gathers_b65_eq {M : Mem} : ∀ (c y z : Nat) (l : List Nat), y + c = 8 → c < z → okL l → fM_gathers_b65 z (nI y) (tbM l M) = some (tbM (g1 c y l) M) := by
  intro c
  induction c with
  | zero =>
    intro y z l hy hz ok
    obtain ⟨z, rfl⟩ := Nat.exists_eq_succ_of_ne_zero (show z ≠ 0 by omega)
    have e : y = 8 := by omega
    subst e
    rw [fM_gathers_b65, if_pos (by decide)]
    rfl
  | succ c ih =>
    intro y z l hy hz ok
    obtain ⟨z, rfl⟩ := Nat.exists_eq_succ_of_ne_zero (show z ≠ 0 by omega)
    rw [fM_gathers_b65, if_neg (by rw [show (8 : Int32) = nI 8 from rfl, n_le (by omega) (by omega)]; omega)]
    have h := fM_gathers_b73_eq (M := M) (show y < 8 by omega) (fM_gathers_b65 z) 8 0 1000 l (by omega) (by omega) ok
    rw [show (0 : Int32) = nI 0 from rfl, h.1]
    exact ih (y + 1) z _ (by omega) (by omega) h.2
/-- the first fill -/
def fiM (s k : Nat) (M : Mem) : Mem := fun a b => if a = 97 ∧ b < k then nI (g0 s b) else M a b
theorem fiM_st {s k : Nat} {M : Mem} : fiM s k M 85 7 = M 85 7 := if_neg (by omega)
theorem fiM_wr {s k : Nat} {M : Mem} : wr (fiM s k M) 97 k (nI (g0 s k)) = fiM s (k + 1) M := by
  funext a b
  unfold wr fiM
  by_cases h1 : a = 97 ∧ b = k
  · rw [if_pos h1, if_pos ⟨h1.1, by omega⟩, h1.2]
  · rw [if_neg h1]
    by_cases h2 : a = 97 ∧ b < k
    · rw [if_pos h2, if_pos ⟨h2.1, by omega⟩]
    · rw [if_neg h2, if_neg (by omega)]
theorem fM_gathers_b10_eq {s a : Nat} {M : Mem} (hs : M 85 7 = nI s) (ha : a < 8) (k2 : Int32 → Mem → Option Mem) : ∀ (c b z : Nat), b + c = 8 → c < z → fM_gathers_b10 k2 (nI a) z (nI b) (fiM s (8 * a + b) M) = k2 (nI (a + 1)) (fiM s (8 * a + 8) M) := by
  intro c
  induction c with
  | zero =>
    intro b z hb hz
    obtain ⟨z, rfl⟩ := Nat.exists_eq_succ_of_ne_zero (show z ≠ 0 by omega)
    have e : b = 8 := by omega
    subst e
    rw [fM_gathers_b10, if_pos (by decide), nI_1]
  | succ c ih =>
    intro b z hb hz
    obtain ⟨z, rfl⟩ := Nat.exists_eq_succ_of_ne_zero (show z ≠ 0 by omega)
    have e8 : 8 * nI a + nI b = nI (8 * a + b) := by rw [show (8 : Int32) = nI 8 from rfl, pk_mul, nI_add]
    rw [fM_gathers_b10, if_neg (by rw [show (8 : Int32) = nI 8 from rfl, n_le (by omega) (by omega)]; omega)]
    simp only [fM_isBeside_eq, Option.bind_some, fiM_st, hs, fM_gathers_b50, e8, if_pos (ib_nI (show 8 * a + b < 64 by omega) (by omega)), ix_nI (show 8 * a + b < 2147483648 by omega), nI_1]
    have hd : (8 * a + b) / 8 = a := by omega
    have hm : (8 * a + b) % 8 = b := by omega
    have hg : g0 s (8 * a + b) = if a = b then 0 else if bsI (nI s) (nI a) (nI b) = 0 then 8 else 1 := by unfold g0; rw [hd, hm]
    have fin : fM_gathers_b10 k2 (nI a) z (nI (b + 1)) (wr (fiM s (8 * a + b) M) 97 (8 * a + b) (nI (g0 s (8 * a + b)))) = k2 (nI (a + 1)) (fiM s (8 * a + 8) M) := by
      rw [fiM_wr]
      exact ih (b + 1) z (by omega) (by omega)
    rw [hg] at fin
    by_cases h1 : a = b
    · rw [if_pos ((n_eq (by omega) (by omega)).mpr h1)]
      rw [if_pos h1] at fin
      exact fin
    · rw [if_neg (fun z => h1 ((n_eq (by omega) (by omega)).mp z))]
      rw [if_neg h1] at fin
      by_cases h2 : bsI (nI s) (nI a) (nI b) = 0
      · rw [if_pos h2]
        rw [if_pos h2] at fin
        exact fin
      · rw [if_neg h2]
        rw [if_neg h2] at fin
        exact fin
theorem fM_gathers_b2_eq {s : Nat} {M : Mem} (hs : M 85 7 = nI s) : ∀ (c a z : Nat), a + c = 8 → c < z → fM_gathers_b2 z (nI a) (fiM s (8 * a) M) = fM_gathers_b65 1000 0 (fiM s 64 M) := by
  intro c
  induction c with
  | zero =>
    intro a z ha hz
    obtain ⟨z, rfl⟩ := Nat.exists_eq_succ_of_ne_zero (show z ≠ 0 by omega)
    have e : a = 8 := by omega
    subst e
    rw [fM_gathers_b2, if_pos (by decide)]
  | succ c ih =>
    intro a z ha hz
    obtain ⟨z, rfl⟩ := Nat.exists_eq_succ_of_ne_zero (show z ≠ 0 by omega)
    rw [fM_gathers_b2, if_neg (by rw [show (8 : Int32) = nI 8 from rfl, n_le (by omega) (by omega)]; omega)]
    have h := fM_gathers_b10_eq (M := M) hs (show a < 8 by omega) (fM_gathers_b2 z) 8 0 1000 (by omega) (by omega)
    rw [show (0 : Int32) = nI 0 from rfl]
    rw [Nat.add_zero] at h
    rw [h]
    exact ih (a + 1) z (by omega) (by omega)
/-- the model's table by the stairs -/
def gaM (s : Nat) (M : Mem) : Mem := tbM (ftab.getD s []) M
theorem fM_gathers_eq {s : Nat} {M : Mem} (hs4 : s < 4) (hs : M 85 7 = nI s) : fM_gathers M = some (gaM s M) := by
  unfold fM_gathers gaM
  have e : M = fiM s (8 * 0) M := by
    funext a b
    unfold fiM
    rw [if_neg (by omega)]
  have h := fM_gathers_b2_eq hs 8 0 1000 (by omega) (by omega)
  rw [← e] at h
  rw [show (0 : Int32) = nI 0 from rfl, h]
  have e2 : fiM s 64 M = tbM ((List.range 64).map (g0 s)) M := by
    funext a b
    unfold fiM tbM tI
    by_cases h1 : a = 97 ∧ b < 64
    · rw [if_pos h1, if_pos h1]
      simp [List.getD_eq_getElem?_getD, h1.2]
    · rw [if_neg h1, if_neg h1]
  have ok : okL ((List.range 64).map (g0 s)) := by
    refine ⟨by simp, fun i => ?_⟩
    unfold tI
    by_cases hi : i < 64
    · simp [List.getD_eq_getElem?_getD, hi]
      unfold g0
      repeat' split
      all_goals omega
    · simp [List.getD_eq_getElem?_getD, hi]
  rw [e2, show (0 : Int32) = nI 0 from rfl, fM_gathers_b65_eq 8 0 1000 _ (by omega) (by omega) ok, g1_ok s hs4]
theorem far_ok : ∀ s, s < 4 → ∀ a, a < 8 → ∀ b, b < 8 → farI (nI s) (nI a) (nI b) = nI (tI (ftab.getD s []) (8 * a + b)) := by decide +kernel
theorem tb_bd : ∀ s, s < 4 → ∀ i, i < 64 → tI (ftab.getD s []) i ≤ 8 := by decide +kernel
end
section
/-! 13: NEXT of the model -/
/-- a memory that holds the table of the stairs s -/
def TB97 (s : Nat) (M : Mem) : Prop := M 85 7 = nI s ∧ ∀ i, i < 64 → M 97 i = nI (tI (ftab.getD s []) i)
theorem gaM_TB {s : Nat} {M : Mem} (h : M 85 7 = nI s) : TB97 s (gaM s M) := by
  refine ⟨by unfold gaM tbM; rw [if_neg (by omega)]; exact h, fun i hi => ?_⟩
  unfold gaM tbM
  rw [if_pos ⟨rfl, hi⟩]
theorem fM_nextTo_b28_z {s : Nat} {M N : Mem} (hM : TB97 s M) (hN : TB97 s N) (a b : Int32) : ∀ (z : Nat) (x i : Int32), fM_nextTo_b28 a b z x i M = (fM_nextTo_b28 a b z x i N).map (fun q => (q.1, M)) := by
  intro z
  induction z with
  | zero => intro x i; rfl
  | succ z ih =>
    intro x i
    rw [fM_nextTo_b28, fM_nextTo_b28]
    simp only [fM_isBeside_eq, Option.bind_some, fM_nextTo_b79, fM_nextTo_b76, hM.1, hN.1]
    by_cases h1 : 8 ≤ i
    · simp only [if_pos h1, Option.map_some]
    · simp only [if_neg h1]
      by_cases h2 : bsI (nI s) a i = 0
      · simp only [if_pos h2]
        exact ih _ _
      · simp only [if_neg h2]
        by_cases h3 : x = -1
        · simp only [if_pos h3]
          exact ih _ _
        · simp only [if_neg h3]
          by_cases h4 : ib (8 * i + b) 64
          · by_cases h5 : ib (8 * x + b) 64
            · simp only [if_pos h4, if_pos h5]
              rw [hM.2 _ (ix_lt h4), hM.2 _ (ix_lt h5), hN.2 _ (ix_lt h4), hN.2 _ (ix_lt h5)]
              split
              · exact ih _ _
              · exact ih _ _
            · simp only [if_pos h4, if_neg h5, Option.map_none]
          · simp only [if_neg h4, Option.map_none]
def cM (s : Nat) : Mem := gaM s (wr zM 85 7 (nI s))
theorem nt_ok : ∀ s, s < 4 → ∀ a, a < 8 → ∀ b, b < 8 → (fM_nextTo (nI a) (nI b) (cM s)).map (fun q => q.1) = some (nxt s a b) := by decide +kernel
theorem fM_nextTo_eq {s a b : Nat} {M : Mem} (hs : s < 4) (hM : TB97 s M) (ha : a < 8) (hb : b < 8) : fM_nextTo (nI a) (nI b) M = some (nxt s a b, M) := by
  have hN : TB97 s (cM s) := gaM_TB wr_same
  have h := nt_ok s hs a ha b hb
  have e8 : 8 * nI a + nI b = nI (8 * a + b) := by rw [show (8 : Int32) = nI 8 from rfl, pk_mul, nI_add]
  have key : fM_nextTo (nI a) (nI b) M = (fM_nextTo (nI a) (nI b) (cM s)).map (fun q => (q.1, M)) := by
    unfold fM_nextTo
    rw [e8, if_pos (ib_nI (show 8 * a + b < 64 by omega) (by omega)), if_pos (ib_nI (show 8 * a + b < 64 by omega) (by omega)), ix_nI (by omega), hM.2 _ (by omega), hN.2 _ (by omega)]
    repeat' split
    · rfl
    · exact fM_nextTo_b28_z hM hN _ _ _ _ _
    · rfl
  rw [key]
  cases hq : fM_nextTo (nI a) (nI b) (cM s) with
  | none => rw [hq] at h; cases h
  | some q =>
    rw [hq] at h
    simp only [Option.map_some, Option.some.injEq] at h ⊢
    rw [h]
end
section
/-! 14: what a morning is: the house as it is seen (V), the state of the day (D: rows as the class has them) -/
/-- the house of base h. Rows: 0 stairs, stays, maids; 1, 2 the stays; 3 work; 4 kind, 5 number, 6 begins, 7 listed; 8 + k the list of maid k -/
def viewC (h : Nat) (M : Mem) : Mem := fun a b =>
  if a = 0 then (if b < 3 then M h b else 0)
  else if a = 1 then (if b < ix (M h 1) then M (h + 1) b else 0)
  else if a = 2 then (if b < ix (M h 1) then M (h + 2) b else 0)
  else if a = 3 then (if b < 8 then M (h + 3) b else 0)
  else if a < 8 then (if b < ix (M h 2) then M (h + 5 + 2 * b) (a - 4) else 0)
  else if a - 8 < ix (M h 2) ∧ b < ix (M (h + 5 + 2 * (a - 8)) 3) then M (h + 6 + 2 * (a - 8)) b else 0
abbrev vS (V : Mem) : Nat := ix (V 0 0)
abbrev vN (V : Mem) : Nat := ix (V 0 1)
abbrev vM (V : Mem) : Nat := ix (V 0 2)
abbrev vL (V : Mem) (k : Nat) : Nat := ix (V 7 k)
def VOK (V : Mem) : Prop := (V 0 0 = nI (vS V) ∧ vS V < 4) ∧ (V 0 1 = nI (vN V) ∧ okMin (vN V) (V 2)) ∧ (V 0 2 = nI (vM V) ∧ vM V ≤ 4) ∧ ∀ k, k < vM V → (0 ≤ (V 5 k).toInt ∧ (V 5 k).toInt ≤ 9) ∧ ib (V 6 k) 8 ∧ (V 7 k = nI (vL V k) ∧ vL V k ≤ 5) ∧ ∀ i, i < vL V k → ib (V (8 + k) i) 8
abbrev Tell : Type := Nat → Int32 → Int32 → Int32 → Int32 → Int32 → Int32 → Int32
/-- in its bounds -/
def clS (p : Nat) (v : Int32) : Int32 := if p = 2 then (if 0 < (if v < 99 then v else 99) then (if v < 99 then v else 99) else 0) else (if 1 < (if v < 9 then v else 9) then (if v < 9 then v else 9) else 1)
def takesS (kind num v : Int32) : Int32 := if kind = 1 ∨ kind = 3 then (if 1 < v - num / 3 then v - num / 3 else 1) else if kind = 2 then v + 1 else if kind = 4 then 2 * (v + 1) else if kind = 5 then 2 * v else v
def worksS (kind num v : Int32) : Int32 := if kind = 1 ∨ kind = 3 then v + 1 else if kind = 4 then v + num else if kind = 5 then (if 1 < v / 2 then v / 2 else 1) else v
def dareB (kind num t : Int32) : Bool := decide (kind = 3) && decide (t - t / (num + 2) * (num + 2) = 0)
def aimS (V D : Mem) (k : Nat) : Int32 := if (D 53 k).toInt < (V 7 k).toInt then V (8 + k) (ix (D 53 k)) else -1
def othF (D : Mem) (k : Nat) : Nat → Nat → Int32 → Int32
  | 0, _, acc => acc
  | c + 1, i, acc => othF D k c (i + 1) (if i ≠ k ∧ D 52 i = 0 ∧ D 50 i = D 50 k then acc + 1 else acc)
def othS (V D : Mem) (k : Nat) : Int32 := othF D k (vM V) 0 0
/-- what the rule tells -/
def telS (tl : Tell) (V D : Mem) (p k : Nat) (t beside : Int32) : Int32 := clS p (tl p t (D 50 k) (D 56 (ix (D 50 k))) (V 5 k) beside (othS V D k))
def nextS (V D : Mem) (k : Nat) : Int32 := if aimS V D k = -1 then -1 else nxt (vS V) (ix (D 50 k)) (ix (aimS V D k))
def lessS (w x : Int32) : Int32 := if 0 < w - x then w - x else 0
def turnS (V : Mem) (tl : Tell) (k : Nat) (t mm : Int32) (D : Mem) : Mem :=
  if 0 < (D 52 k).toInt then
    (if D 52 k - 1 = 0 then wr (wr D 52 k (D 52 k - 1)) 50 k (D 51 k) else wr D 52 k (D 52 k - 1))
  else if D 50 k = mm then wr (wr D 54 k (D 54 k + 1)) 45 13 (D 45 13 + telS tl V D 2 k t 0)
  else if D 50 k = aimS V D k then
    (if lessS (D 56 (ix (D 50 k))) (worksS (V 4 k) (V 5 k) (telS tl V D 1 k t 0)) = 0 then wr (wr D 56 (ix (D 50 k)) (lessS (D 56 (ix (D 50 k))) (worksS (V 4 k) (V 5 k) (telS tl V D 1 k t 0)))) 53 k (D 53 k + 1)
     else wr D 56 (ix (D 50 k)) (lessS (D 56 (ix (D 50 k))) (worksS (V 4 k) (V 5 k) (telS tl V D 1 k t 0))))
  else if nextS V D k = -1 ∨ (nextS V D k = mm ∧ dareB (V 4 k) (V 5 k) t = false) then wr D 55 k (D 55 k + 1)
  else wr (wr D 52 k (takesS (V 4 k) (V 5 k) (telS tl V D 0 k t (nextS V D k)))) 51 k (nextS V D k)
def turnsF (V : Mem) (tl : Tell) (t mm : Int32) : Nat → Nat → Mem → Mem
  | 0, _, D => D
  | c + 1, k, D => turnsF V tl t mm c (k + 1) (turnS V tl k t mm D)
def doneS (V D : Mem) : Bool := (List.range (vM V)).all (fun k => (List.range (vL V k)).all (fun i => decide ((D 56 (ix (V (8 + k) i))).toInt ≤ 0)))
def passS (V : Mem) (tl : Tell) (t : Int32) (D : Mem) : Mem :=
  let D1 := turnsF V tl t (mst (vN V) (V 1) (V 2) t) (vM V) 0 D
  if D1 45 14 = -1 ∧ doneS V D1 = true then wr D1 45 14 t else D1
def dayF (V : Mem) (tl : Tell) : Nat → Nat → Mem → Mem
  | 0, _, D => D
  | c + 1, t, D => dayF V tl c (t + 1) (passS V tl (nI t) D)
/-- how a day begins -/
def Start (V D : Mem) : Prop := (∀ k, k < vM V → D 50 k = V 6 k ∧ D 52 k = 0 ∧ D 53 k = 0 ∧ D 54 k = 0 ∧ D 55 k = 0) ∧ (∀ r, r < 8 → D 56 r = V 3 r) ∧ D 45 13 = 0 ∧ D 45 14 = -1
/-- where it can be -/
def DOK (V D : Mem) : Prop := ∀ k, k < vM V → ib (D 50 k) 8 ∧ (0 ≤ (D 52 k).toInt ∧ (D 52 k).toInt ≤ 100) ∧ (0 < (D 52 k).toInt → ib (D 51 k) 8) ∧ (0 ≤ (D 53 k).toInt ∧ (D 53 k).toInt ≤ (V 7 k).toInt)
theorem clS_bd (p : Nat) (v : Int32) : (p = 2 → 0 ≤ (clS p v).toInt ∧ (clS p v).toInt ≤ 99) ∧ (p ≠ 2 → 1 ≤ (clS p v).toInt ∧ (clS p v).toInt ≤ 9) := by
  have e99 : (99 : Int32).toInt = 99 := rfl
  have e9 : (9 : Int32).toInt = 9 := rfl
  have e1 : (1 : Int32).toInt = 1 := rfl
  have e0 : (0 : Int32).toInt = 0 := rfl
  unfold clS
  simp only [i_lt]
  constructor
  · intro hp
    rw [if_pos hp]
    repeat' split
    all_goals omega
  · intro hp
    rw [if_neg hp]
    repeat' split
    all_goals omega
theorem takesS_bd {kind num v : Int32} (hn : 0 ≤ num.toInt ∧ num.toInt ≤ 9) (hv : 1 ≤ v.toInt ∧ v.toInt ≤ 9) : 1 ≤ (takesS kind num v).toInt ∧ (takesS kind num v).toInt ≤ 100 := by
  have e1 : (1 : Int32).toInt = 1 := rfl
  have e2 : (2 : Int32).toInt = 2 := rfl
  have ed : (num / 3).toInt = num.toInt / 3 := by
    have := pk_div (a := ix num) (d := 3) (by unfold ix; omega) (by omega) (by omega)
    rw [nI_ix hn.1] at this
    rw [show (3 : Int32) = nI 3 from rfl, this, nI_t (by unfold ix; omega)]
    unfold ix
    omega
  have es : (v - num / 3).toInt = v.toInt - num.toInt / 3 := by rw [t_sub (by omega) (by omega), ed]
  have ea : (v + 1).toInt = v.toInt + 1 := by rw [t_add (by omega) (by omega), e1]
  have em : (2 * (v + 1)).toInt = 2 * (v.toInt + 1) := by rw [t_mul (by rw [e2]; omega) (by rw [e2]; omega), ea, e2]
  have em2 : (2 * v).toInt = 2 * v.toInt := by rw [t_mul (by rw [e2]; omega) (by rw [e2]; omega), e2]
  unfold takesS
  simp only [i_lt]
  repeat' split
  all_goals omega
/-- the small functions of the class -/
theorem fA_roomListed_eq (q : Nat) (x : Int32) (M : Mem) (hb : 0 ≤ (M q 3).toInt ∧ (M q 3).toInt ≤ 5) (h0 : 0 ≤ x.toInt) : fA_roomListed q x M = some (if x.toInt < (M q 3).toInt then M (q + 1) (ix x) else -1, M) := by
  unfold fA_roomListed
  simp only [fN_within_eq, Option.bind_some, bz_0]
  by_cases h : x.toInt < (M q 3).toInt
  · rw [if_neg (by omega), if_pos (show ib x 5 by unfold ib; omega), if_pos h]
  · rw [if_pos (by omega), if_neg h]
theorem fA_takes_eq (q : Nat) (v : Int32) (M : Mem) : fA_takes q v M = some (takesS (M q 0) (M q 1) v, M) := by
  unfold fA_takes takesS fA_takes_b40
  by_cases h1 : M q 0 = 1
  · rw [if_pos h1, if_pos (Or.inl h1)]
  · by_cases h2 : M q 0 = 2
    · rw [if_neg h1, if_pos h2, if_neg (by rw [h2]; decide), if_pos h2]
    · by_cases h3 : M q 0 = 3
      · rw [if_neg h1, if_neg h2, if_pos h3, if_pos (Or.inr h3)]
      · rw [if_neg h1, if_neg h2, if_neg h3, if_neg (show ¬ (M q 0 = 1 ∨ M q 0 = 3) from fun z => z.elim h1 h3), if_neg h2]
        by_cases h4 : M q 0 = 4
        · rw [if_pos h4, if_pos h4]
        · rw [if_neg h4, if_neg h4]
          by_cases h5 : M q 0 = 5
          · rw [if_pos h5, if_pos h5]
          · rw [if_neg h5, if_neg h5]
theorem fA_works_eq (q : Nat) (v : Int32) (M : Mem) : fA_works q v M = some (worksS (M q 0) (M q 1) v, M) := by
  unfold fA_works worksS fA_works_b40 fA_works_b59
  by_cases h1 : M q 0 = 1
  · rw [if_pos h1, if_pos (Or.inl h1)]
  · by_cases h2 : M q 0 = 2
    · rw [if_neg h1, if_pos h2, if_neg (by rw [h2]; decide), if_neg (by rw [h2]; decide), if_neg (by rw [h2]; decide)]
    · by_cases h3 : M q 0 = 3
      · rw [if_neg h1, if_neg h2, if_pos h3, if_pos (Or.inr h3)]
      · rw [if_neg h1, if_neg h2, if_neg h3, if_neg (show ¬ (M q 0 = 1 ∨ M q 0 = 3) from fun z => z.elim h1 h3)]
        by_cases h4 : M q 0 = 4
        · rw [if_pos h4, if_pos h4]
        · rw [if_neg h4, if_neg h4]
          by_cases h5 : M q 0 = 5
          · rw [if_pos h5, if_pos h5]
          · rw [if_neg h5, if_neg h5]
theorem num2 {num : Int32} (h : 0 ≤ num.toInt ∧ num.toInt ≤ 9) : ¬ num + 2 = 0 := by
  have e2 : (2 : Int32).toInt = 2 := rfl
  have e0 : (0 : Int32).toInt = 0 := rfl
  rw [i_eq, t_add (by omega) (by omega)]
  omega
theorem fA_dares_eq (q : Nat) (t : Int32) (M : Mem) (hn : 0 ≤ (M q 1).toInt ∧ (M q 1).toInt ≤ 9) : fA_dares q t M = some (bz (dareB (M q 0) (M q 1) t = true), M) := by
  unfold fA_dares dareB
  have h2 := num2 hn
  by_cases h1 : M q 0 = 3
  · rw [if_pos h1, if_neg h2]
    by_cases h3 : t - t / (M q 1 + 2) * (M q 1 + 2) = 0
    · rw [if_pos h3]; simp [h1, h3]
    · rw [if_neg h3]; simp [h1, h3]
  · rw [if_neg h1]; simp [h1]
end
section
/-! 15: the class's day is the morning as it is said in 14 -/
/-- a text of the class means tl -/
def VCl (g : Nat) (tl : Tell) (C E : Nat → Int32) : Prop := ∀ (N : Mem) (p : Nat), N (g + 1) = C → N (g + 2) = E → p < 3 → ∃ N', fG_value g (nI p) N = some (tl p (N 48 0) (N 48 1) (N 48 2) (N 48 3) (N 48 4) (N 48 5), N') ∧ ∀ a, a ≠ 49 → N' a = N a
/-- M holds the house of base h as the day's, seen as V, its rule means tl, its ways are laid -/
def CV (h : Nat) (V : Mem) (tl : Tell) (M : Mem) : Prop := hOK h ∧ M 45 0 = nI h ∧ V = viewC h M ∧ VOK V ∧ ib (M h 3) 6 ∧ VCl (59 + 3 * ix (M h 3)) tl (M (60 + 3 * ix (M h 3))) (M (61 + 3 * ix (M h 3))) ∧ ∀ i, i < 64 → M 47 i = nxt (vS V) (i / 8) (i % 8)
def KeepC (M N : Mem) : Prop := (∀ a, a ≠ 45 → (a < 48 ∨ 56 < a) → N a = M a) ∧ N 45 0 = M 45 0
theorem viewC_keep {h : Nat} {M N : Mem} (hh : hOK h) (hm : ix (M h 2) ≤ 4) (k : ∀ a, a < 45 → N a = M a) : viewC h N = viewC h M := by
  have hl : h < 28 := by unfold hOK at hh; omega
  have e0 : N h = M h := k h (by omega)
  have e1 : N (h + 1) = M (h + 1) := k _ (by omega)
  have e2 : N (h + 2) = M (h + 2) := k _ (by omega)
  have e3 : N (h + 3) = M (h + 3) := k _ (by omega)
  have e5 : ∀ b, b < ix (M h 2) → N (h + 5 + 2 * b) = M (h + 5 + 2 * b) := fun b hb => k _ (by omega)
  have e6 : ∀ b, b < ix (M h 2) → N (h + 6 + 2 * b) = M (h + 6 + 2 * b) := fun b hb => k _ (by omega)
  funext a b
  unfold viewC
  simp only [e0, e1, e2, e3]
  split
  · rfl
  · split
    · rfl
    · split
      · rfl
      · split
        · rfl
        · split
          · split
            · rename_i hb; rw [e5 b hb]
            · rfl
          · by_cases hc : a - 8 < ix (M h 2)
            · rw [e5 _ hc, e6 _ hc]
            · rw [if_neg (fun z => hc z.1), if_neg (fun z => hc z.1)]
theorem CV.keep {h : Nat} {V : Mem} {tl : Tell} {M N : Mem} (c : CV h V tl M) (k : KeepC M N) : CV h V tl N := by
  obtain ⟨c1, c2, c3, c4, c5, c6, c7⟩ := c
  have hl : h < 28 := by unfold hOK at c1; omega
  have hm : ix (M h 2) ≤ 4 := by
    have := c4.2.2.1.2
    rw [c3] at this
    exact this
  have e0 : N h = M h := k.1 h (hN45 c1) (by omega)
  refine ⟨c1, k.2.trans c2, c3.trans (viewC_keep c1 hm (fun a h2 => k.1 a (by omega) (Or.inl (by omega)))).symm, c4, by rw [e0]; exact c5, ?_, fun i hi => by rw [k.1 47 (by decide) (by decide)]; exact c7 i hi⟩
  rw [e0, k.1 _ (by omega) (by omega), k.1 _ (by omega) (by omega)]
  exact c6
theorem KeepC.trans {M N O : Mem} (a : KeepC M N) (b : KeepC N O) : KeepC M O := ⟨fun x h1 h2 => (b.1 x h1 h2).trans (a.1 x h1 h2), b.2.trans a.2⟩
theorem KeepC.rfl' {M : Mem} : KeepC M M := ⟨fun _ _ _ => rfl, rfl⟩
theorem KeepC.put {M : Mem} {k j : Nat} {v : Int32} (h : (48 ≤ k ∧ k ≤ 56) ∨ (k = 45 ∧ j ≠ 0)) : KeepC M (wr M k j v) := by
  refine ⟨fun a h1 h2 => wr_ne (by omega), ?_⟩
  unfold wr
  rw [if_neg (by omega)]
/-- what V says, read off M -/
theorem CV.f {h : Nat} {V : Mem} {tl : Tell} {M : Mem} (c : CV h V tl M) : ix (M 45 0) = h ∧ hOK (ix (M 45 0)) ∧ M h 0 = V 0 0 ∧ M h 1 = nI (vN V) ∧ M h 2 = nI (vM V) ∧ (∀ i, i < vN V → M (h + 1) i = V 1 i ∧ M (h + 2) i = V 2 i) ∧ (∀ r, r < 8 → M (h + 3) r = V 3 r) ∧ ∀ k, k < vM V → (M (h + 5 + 2 * k) 0 = V 4 k ∧ M (h + 5 + 2 * k) 1 = V 5 k ∧ M (h + 5 + 2 * k) 2 = V 6 k ∧ M (h + 5 + 2 * k) 3 = V 7 k) ∧ ∀ i, i < vL V k → M (h + 6 + 2 * k) i = V (8 + k) i := by
  obtain ⟨c1, c2, c3, c4, -⟩ := c
  have hi : ix (M 45 0) = h := by rw [c2]; exact ix_nI (by unfold hOK at c1; omega)
  have a0 : V 0 0 = M h 0 := by rw [c3]; rfl
  have a1 : V 0 1 = M h 1 := by rw [c3]; rfl
  have a2 : V 0 2 = M h 2 := by rw [c3]; rfl
  have b1 := c4.2.1.1
  have b2 := c4.2.2.1.1
  have f4 : ∀ k, k < vM V → (M (h + 5 + 2 * k) 0 = V 4 k ∧ M (h + 5 + 2 * k) 1 = V 5 k ∧ M (h + 5 + 2 * k) 2 = V 6 k ∧ M (h + 5 + 2 * k) 3 = V 7 k) := by
    intro k hk
    have hk' : k < ix (M h 2) := by rw [← a2]; exact hk
    have z0 : viewC h M 4 k = if k < ix (M h 2) then M (h + 5 + 2 * k) 0 else 0 := rfl
    have z1 : viewC h M 5 k = if k < ix (M h 2) then M (h + 5 + 2 * k) 1 else 0 := rfl
    have z2 : viewC h M 6 k = if k < ix (M h 2) then M (h + 5 + 2 * k) 2 else 0 := rfl
    have z3 : viewC h M 7 k = if k < ix (M h 2) then M (h + 5 + 2 * k) 3 else 0 := rfl
    rw [if_pos hk'] at z0 z1 z2 z3
    rw [← c3] at z0 z1 z2 z3
    exact ⟨z0.symm, z1.symm, z2.symm, z3.symm⟩
  refine ⟨hi, hi ▸ c1, a0.symm, a1.symm.trans b1, a2.symm.trans b2, fun i hi2 => ?_, fun r hr => ?_, fun k hk => ⟨f4 k hk, fun i hi2 => ?_⟩⟩
  · have hi' : i < ix (M h 1) := by rw [← a1]; exact hi2
    have z0 : viewC h M 1 i = if i < ix (M h 1) then M (h + 1) i else 0 := rfl
    have z1 : viewC h M 2 i = if i < ix (M h 1) then M (h + 2) i else 0 := rfl
    rw [if_pos hi', ← c3] at z0 z1
    exact ⟨z0.symm, z1.symm⟩
  · have z0 : viewC h M 3 r = if r < 8 then M (h + 3) r else 0 := rfl
    rw [if_pos hr, ← c3] at z0
    exact z0.symm
  · have hk' : k < ix (M h 2) := by rw [← a2]; exact hk
    have hi' : i < ix (M (h + 5 + 2 * k) 3) := by rw [(f4 k hk).2.2.2]; exact hi2
    have k4 := c4.2.2.1.2
    rw [c3]
    unfold viewC
    simp only [show ¬ 8 + k = 0 by omega, show ¬ 8 + k = 1 by omega, show ¬ 8 + k = 2 by omega, show ¬ 8 + k = 3 by omega, show ¬ 8 + k < 8 by omega, if_false, show 8 + k - 8 = k by omega]
    rw [if_pos ⟨hk', hi'⟩]
theorem fD_othersWith_eq {h : Nat} {V : Mem} {tl : Tell} {M : Mem} (c : CV h V tl M) {k : Nat} (hk : k < vM V) : ∀ (cn i : Nat) (acc : Int32) (z : Nat), i + cn = vM V → cn < z → fD_othersWith_b4 (nI k) z acc (nI i) M = some (othF M k cn i acc, M) := by
  have F := c.f
  have m4 := c.2.2.2.1.2.2.1.2
  intro cn
  induction cn with
  | zero =>
    intro i acc z hi hz
    obtain ⟨z, rfl⟩ := Nat.exists_eq_succ_of_ne_zero (show z ≠ 0 by omega)
    rw [fD_othersWith_b4, if_pos F.2.1, F.1, F.2.2.2.2.1, if_pos (by rw [n_le (by omega) (by omega)]; omega)]
    rfl
  | succ cn ih =>
    intro i acc z hi hz
    obtain ⟨z, rfl⟩ := Nat.exists_eq_succ_of_ne_zero (show z ≠ 0 by omega)
    have gi : ib (nI i) 4 := ib_nI (by omega) (by omega)
    have gk : ib (nI k) 4 := ib_nI (by omega) (by omega)
    have ei : ix (nI i) = i := ix_nI (by omega)
    have ek : ix (nI k) = k := ix_nI (by omega)
    rw [fD_othersWith_b4, if_pos F.2.1, F.1, F.2.2.2.2.1, if_neg (by rw [n_le (by omega) (by omega)]; omega)]
    simp only [if_pos gi, if_pos gk, ei, ek, fD_othersWith_b47, nI_1]
    rw [othF]
    by_cases h1 : i = k
    · rw [if_pos ((n_eq (by omega) (by omega)).mpr h1), if_neg (fun z => z.1 h1)]
      exact ih (i + 1) acc z (by omega) (by omega)
    · rw [if_neg (fun z => h1 ((n_eq (by omega) (by omega)).mp z))]
      by_cases h2 : M 52 i = 0
      · rw [if_pos h2]
        by_cases h3 : M 50 i = M 50 k
        · rw [if_pos h3, if_pos ⟨h1, h2, h3⟩]
          exact ih (i + 1) _ z (by omega) (by omega)
        · rw [if_neg h3, if_neg (fun z => h3 z.2.2)]
          exact ih (i + 1) _ z (by omega) (by omega)
      · rw [if_neg h2, if_neg (fun z => h2 z.2.1)]
        exact ih (i + 1) _ z (by omega) (by omega)
theorem othF_congr {D N : Mem} {k : Nat} (h50 : N 50 = D 50) (h52 : N 52 = D 52) : ∀ (c i : Nat) (acc : Int32), othF N k c i acc = othF D k c i acc
  | 0, _, _ => rfl
  | c + 1, i, acc => by rw [othF, othF, h50, h52]; exact othF_congr h50 h52 c (i + 1) _
theorem fD_tells_eq {h : Nat} {V : Mem} {tl : Tell} {M : Mem} (c : CV h V tl M) (dk : DOK V M) {k p : Nat} (hk : k < vM V) (hp : p < 3) (t b : Int32) : ∃ M', fD_tells (nI p) (nI k) t b M = some (telS tl V M p k t b, M') ∧ ∀ a, a ≠ 48 → a ≠ 49 → M' a = M a := by
  have F := c.f
  have m4 := c.2.2.2.1.2.2.1.2
  have gk : ib (nI k) 4 := ib_nI (by omega) (by omega)
  have ek : ix (nI k) = k := ix_nI (by omega)
  have g8 := (dk k hk).1
  have i0 : ix (0 : Int32) = 0 := rfl
  have i1 : ix (1 : Int32) = 1 := rfl
  have i2 : ix (2 : Int32) = 2 := rfl
  have i3 : ix (3 : Int32) = 3 := rfl
  have i4 : ix (4 : Int32) = 4 := rfl
  have i5 : ix (5 : Int32) = 5 := rfl
  have hl : h < 28 := by have := c.1; unfold hOK at this; omega
  unfold fD_tells
  simp only [if_pos (show ib 0 6 by decide), if_pos (show ib 1 6 by decide), if_pos (show ib 2 6 by decide), if_pos (show ib 3 6 by decide), if_pos (show ib 4 6 by decide), if_pos (show ib 5 6 by decide), if_pos gk, ek, i0, i1, i2, i3, i4, i5]
  have r1 : ∀ (N : Mem) (j a : Nat) (v : Int32), a ≠ 48 → wr N 48 j v a = N a := fun N j a v ha => wr_ne ha
  simp only [r1 _ _ 50 _ (by decide), r1 _ _ 56 _ (by decide), r1 _ _ 45 _ (by decide), F.1, r1 _ _ (h + 5 + 2 * k) _ (by omega), (F.2.2.2.2.2.2.2 k hk).1.2.1]
  rw [if_pos g8, if_pos (F.1 ▸ F.2.1)]
  generalize hN : wr (wr (wr (wr (wr M 48 0 t) 48 1 (M 50 k)) 48 2 (M 56 (ix (M 50 k)))) 48 3 (V 5 k)) 48 4 b = N
  have n0 : N 48 0 = t := by rw [← hN]; simp [wr]
  have n1 : N 48 1 = M 50 k := by rw [← hN]; simp [wr]
  have n2 : N 48 2 = M 56 (ix (M 50 k)) := by rw [← hN]; simp [wr]
  have n3 : N 48 3 = V 5 k := by rw [← hN]; simp [wr]
  have n4 : N 48 4 = b := by rw [← hN]; simp [wr]
  have nr : ∀ a, a ≠ 48 → N a = M a := fun a ha => by rw [← hN, wr_ne ha, wr_ne ha, wr_ne ha, wr_ne ha, wr_ne ha]
  have cN : CV h V tl N := c.keep ⟨fun a h1 h2 => nr a (by omega), by rw [nr 45 (by decide)]⟩
  have eo : fD_othersWith (nI k) N = some (othS V M k, N) := by
    unfold fD_othersWith
    have := fD_othersWith_eq cN hk (vM V) 0 0 1000 (by omega) (by omega)
    rw [show (0 : Int32) = nI 0 from rfl] at this ⊢
    rw [this, othF_congr (nr 50 (by decide)) (nr 52 (by decide))]
    rfl
  rw [eo]
  simp only [Option.bind_some, r1 _ _ 45 _ (by decide), nr 45 (by decide), F.1, r1 _ _ h _ (by omega), nr h (by omega)]
  rw [if_pos (F.1 ▸ F.2.1), if_pos c.2.2.2.2.1]
  have hr6 := ix_lt c.2.2.2.2.1
  generalize hO : wr N 48 5 (othS V M k) = O
  have o5 : O 48 5 = othS V M k := by rw [← hO]; exact wr_same
  have oj : ∀ j, j ≠ 5 → O 48 j = N 48 j := fun j hj => by rw [← hO]; exact wr_at hj
  have orr : ∀ a, a ≠ 48 → O a = M a := fun a ha => by rw [← hO, wr_ne ha]; exact nr a ha
  obtain ⟨N', e', k'⟩ := c.2.2.2.2.2.1 O p (by rw [show 59 + 3 * ix (M h 3) + 1 = 60 + 3 * ix (M h 3) by omega]; exact orr _ (by omega)) (by rw [show 59 + 3 * ix (M h 3) + 2 = 61 + 3 * ix (M h 3) by omega]; exact orr _ (by omega)) hp
  rw [oj 0 (by decide), oj 1 (by decide), oj 2 (by decide), oj 3 (by decide), oj 4 (by decide), o5, n0, n1, n2, n3, n4] at e'
  rw [e']
  refine ⟨N', ?_, fun a h1 h2 => by rw [k' a h2, orr a h1]⟩
  simp only [Option.bind_some]
  unfold telS clS
  by_cases hp2 : p = 2
  · rw [if_pos (by rw [hp2]; rfl), if_pos hp2]
  · rw [if_neg (by rw [show (2 : Int32) = nI 2 from rfl, n_eq (by omega) (by omega)]; exact hp2), if_neg hp2]
end
section
/-! 16: a maid's turn in the class -/
abbrev EqD (D M : Mem) : Prop := ∀ a, a ≠ 48 → a ≠ 49 → M a = D a
theorem aim_eq {h : Nat} {V : Mem} {tl : Tell} {M : Mem} (c : CV h V tl M) (dk : DOK V M) {k : Nat} (hk : k < vM V) : fA_roomListed (h + 5 + 2 * k) (M 53 k) M = some (aimS V M k, M) := by
  have F := c.f
  have K := F.2.2.2.2.2.2.2 k hk
  have hL := (c.2.2.2.1.2.2.2 k hk).2.2.1
  have e7 := nI_t (show vL V k < 2147483648 by omega)
  have p0 := (dk k hk).2.2.2
  rw [fA_roomListed_eq _ _ _ (by rw [K.1.2.2.2, hL.1, e7]; omega) p0.1, K.1.2.2.2]
  unfold aimS
  by_cases hc : (M 53 k).toInt < (V 7 k).toInt
  · rw [if_pos hc, if_pos hc, show h + 5 + 2 * k + 1 = h + 6 + 2 * k by omega, K.2 _ (by rw [hL.1, e7] at hc; unfold ix; omega)]
  · rw [if_neg hc, if_neg hc]
theorem aimS_bd {V D : Mem} (vo : VOK V) {k : Nat} (hk : k < vM V) (hp : 0 ≤ (D 53 k).toInt) : aimS V D k = -1 ∨ ((0 ≤ (aimS V D k).toInt ∧ (aimS V D k).toInt < 8) ∧ (D 53 k).toInt < (V 7 k).toInt) := by
  have hL := (vo.2.2.2 k hk).2.2
  have e7 := nI_t (show vL V k < 2147483648 by omega)
  unfold aimS
  by_cases hc : (D 53 k).toInt < (V 7 k).toInt
  · rw [if_pos hc]
    right
    exact ⟨hL.2 _ (by rw [hL.1.1, e7] at hc; unfold ix; omega), hc⟩
  · rw [if_neg hc]
    left; rfl
theorem DOK_wr_other {V D : Mem} (d : DOK V D) {a j : Nat} {v : Int32} (ha : a ≠ 50 ∧ a ≠ 51 ∧ a ≠ 52 ∧ a ≠ 53) : DOK V (wr D a j v) := by
  intro k hk
  rw [wr_ne (show 50 ≠ a by omega), wr_ne (show 51 ≠ a by omega), wr_ne (show 52 ≠ a by omega), wr_ne (show 53 ≠ a by omega)]
  exact d k hk
theorem fD_turn_eq {h : Nat} {V : Mem} {tl : Tell} {M : Mem} (c : CV h V tl M) (dk : DOK V M) {k : Nat} (hk : k < vM V) (t mm : Int32) : (∃ M', fD_turn (nI k) t mm M = some M' ∧ EqD (turnS V tl k t mm M) M') ∧ DOK V (turnS V tl k t mm M) ∧ KeepC M (turnS V tl k t mm M) := by
  have F := c.f
  have vo := c.2.2.2.1
  have m4 := vo.2.2.1.2
  have K := F.2.2.2.2.2.2.2 k hk
  have dK := dk k hk
  have gk : ib (nI k) 4 := ib_nI (by omega) (by omega)
  have ek : ix (nI k) = k := ix_nI (by omega)
  have hl : h < 28 := by have := c.1; unfold hOK at this; omega
  have e0 : (0 : Int32).toInt = 0 := rfl
  have e1 : (1 : Int32).toInt = 1 := rfl
  have num := (vo.2.2.2 k hk).1
  unfold fD_turn turnS
  rw [if_pos F.2.1]
  simp only [if_pos gk, ek, F.1, aim_eq c dk hk, Option.bind_some, fD_turn_b238, fD_turn_b207]
  by_cases hw : 0 < (M 52 k).toInt
  · rw [if_neg (by rw [i_le, e0]; omega), if_pos hw, wr_same]
    by_cases hz : M 52 k - 1 = 0
    · rw [if_pos hz, if_pos hz]
      refine ⟨⟨_, rfl, ?_⟩, ?_, ?_⟩
      · intro a _ _; rw [wr_ne (show 51 ≠ 52 by decide)]
      · intro j hj
        have d := dk j hj
        rw [wr_ne (show 51 ≠ 50 by decide), wr_ne (show 51 ≠ 52 by decide), wr_ne (show 52 ≠ 50 by decide), wr_ne (show 53 ≠ 50 by decide), wr_ne (show 53 ≠ 52 by decide)]
        by_cases hjk : j = k
        · subst hjk
          rw [wr_same, wr_same, hz]
          exact ⟨d.2.2.1 hw, by decide, fun z => absurd z (by decide), d.2.2.2⟩
        · rw [wr_at hjk, wr_ne (show 50 ≠ 52 by decide), wr_at hjk]
          exact d
      · exact (KeepC.put (Or.inl (by decide))).trans (KeepC.put (Or.inl (by decide)))
    · rw [if_neg hz, if_neg hz]
      refine ⟨⟨_, rfl, fun a _ _ => rfl⟩, ?_, KeepC.put (Or.inl (by decide))⟩
      intro j hj
      have d := dk j hj
      rw [wr_ne (show 51 ≠ 52 by decide), wr_ne (show 50 ≠ 52 by decide), wr_ne (show 53 ≠ 52 by decide)]
      by_cases hjk : j = k
      · subst hjk
        rw [wr_same, t_sub (by omega) (by omega), e1]
        exact ⟨d.1, by omega, fun z => d.2.2.1 hw, d.2.2.2⟩
      · rw [wr_at hjk]
        exact d
  · rw [if_pos (by rw [i_le, e0]; omega), if_neg hw]
    by_cases hm : M 50 k = mm
    · rw [if_pos hm, if_pos hm]
      have c2 : CV h V tl (wr M 54 k (M 54 k + 1)) := c.keep (KeepC.put (Or.inl (by decide)))
      have d2 : DOK V (wr M 54 k (M 54 k + 1)) := DOK_wr_other dk (by decide)
      obtain ⟨M', e, kp⟩ := fD_tells_eq c2 d2 hk (show 2 < 3 by decide) t 0
      have et : telS tl V (wr M 54 k (M 54 k + 1)) 2 k t 0 = telS tl V M 2 k t 0 := by
        unfold telS othS
        rw [wr_ne (show 50 ≠ 54 by decide), wr_ne (show 56 ≠ 54 by decide), othF_congr (D := M) (wr_ne (by decide)) (wr_ne (by decide))]
      rw [show (2 : Int32) = nI 2 from rfl, e]
      simp only [Option.bind_some, et]
      refine ⟨⟨_, rfl, ?_⟩, DOK_wr_other d2 (by decide), (KeepC.put (Or.inl (by decide))).trans (KeepC.put (Or.inr ⟨rfl, by decide⟩))⟩
      intro a h48 h49
      rw [wr_ne (show 45 ≠ 54 by decide)]
      funext b
      unfold wr
      split
      · rfl
      · exact congrFun (kp a h48 h49) b
    · rw [if_neg hm, if_neg hm]
      by_cases ha : M 50 k = aimS V M k
      · rw [if_pos ha, if_pos ha, if_pos dK.1]
        obtain ⟨M', e, kp⟩ := fD_tells_eq c dk hk (show 1 < 3 by decide) t 0
        rw [show (1 : Int32) = nI 1 from rfl, e]
        simp only [Option.bind_some, fA_works_eq, if_pos dK.1]
        rw [kp (h + 5 + 2 * k) (by omega) (by omega), K.1.1, K.1.2.1, wr_same]
        have hls : (if nI 0 < M 56 (ix (M 50 k)) - worksS (V 4 k) (V 5 k) (telS tl V M 1 k t 0) then M 56 (ix (M 50 k)) - worksS (V 4 k) (V 5 k) (telS tl V M 1 k t 0) else nI 0) = lessS (M 56 (ix (M 50 k))) (worksS (V 4 k) (V 5 k) (telS tl V M 1 k t 0)) := rfl
        rw [show (if 0 < M 56 (ix (M 50 k)) - worksS (V 4 k) (V 5 k) (telS tl V M 1 k t 0) then M 56 (ix (M 50 k)) - worksS (V 4 k) (V 5 k) (telS tl V M 1 k t 0) else 0) = lessS (M 56 (ix (M 50 k))) (worksS (V 4 k) (V 5 k) (telS tl V M 1 k t 0)) from rfl]
        generalize lessS (M 56 (ix (M 50 k))) (worksS (V 4 k) (V 5 k) (telS tl V M 1 k t 0)) = y at hls ⊢
        by_cases hyz : y = 0
        · rw [if_pos hyz, if_pos hyz, wr_ne (show 53 ≠ 56 by decide), kp 53 (by decide) (by decide)]
          refine ⟨⟨_, rfl, ?_⟩, ?_, (KeepC.put (Or.inl (by decide))).trans (KeepC.put (Or.inl (by decide)))⟩
          · intro a h48 h49
            funext b
            unfold wr
            split
            · rfl
            · split
              · rfl
              · exact congrFun (kp a h48 h49) b
          · intro j hj
            have d := dk j hj
            rw [wr_ne (show 50 ≠ 53 by decide), wr_ne (show 51 ≠ 53 by decide), wr_ne (show 52 ≠ 53 by decide), wr_ne (show 50 ≠ 56 by decide), wr_ne (show 51 ≠ 56 by decide), wr_ne (show 52 ≠ 56 by decide)]
            by_cases hjk : j = k
            · subst hjk
              rw [wr_same]
              have hb := aimS_bd vo hk dK.2.2.2.1
              have hlt : (M 53 j).toInt < (V 7 j).toInt := by
                rcases hb with z | z
                · rw [z] at ha
                  have h8 := d.1.1
                  rw [ha, m1_t] at h8
                  omega
                · exact z.2
              have h7 := tI_lt (V 7 j)
              rw [t_add (by rw [show (nI 1).toInt = 1 from rfl]; omega) (by rw [show (nI 1).toInt = 1 from rfl]; omega), show (nI 1).toInt = 1 from rfl]
              exact ⟨d.1, d.2.1, d.2.2.1, by omega⟩
            · rw [wr_at hjk, wr_ne (show 53 ≠ 56 by decide)]
              exact d
        · rw [if_neg hyz, if_neg hyz]
          refine ⟨⟨_, rfl, ?_⟩, DOK_wr_other dk (by decide), KeepC.put (Or.inl (by decide))⟩
          intro a h48 h49
          funext b
          unfold wr
          split
          · rfl
          · exact congrFun (kp a h48 h49) b
      · rw [if_neg ha, if_neg ha]
        have hroom : M 50 k = nI (ix (M 50 k)) := (of_ib dK.1).1
        have hroom8 := (of_ib dK.1).2
        have hab := aimS_bd vo hk dK.2.2.2.1
        have en : fY_nextLaid (M 50 k) (aimS V M k) M = some (nextS V M k, M) := by
          rw [hroom, fY_nextLaid_eq vo.1.2 c.2.2.2.2.2.2 hroom8 _ (hab.elim Or.inl (fun z => Or.inr z.1))]
          rfl
        rw [en]
        simp only [Option.bind_some]
        have goOn : (∃ M', ((fD_tells 0 (nI k) t (nextS V M k) M).bind fun w9 => (fA_takes (h + 5 + 2 * k) w9.1 w9.2).bind fun w10 => some (wr (wr w10.2 52 k w10.1) 51 k (nextS V M k))) = some M' ∧ EqD (wr (wr M 52 k (takesS (V 4 k) (V 5 k) (telS tl V M 0 k t (nextS V M k)))) 51 k (nextS V M k)) M') := by
          obtain ⟨M', e, kp⟩ := fD_tells_eq c dk hk (show 0 < 3 by decide) t (nextS V M k)
          rw [show (0 : Int32) = nI 0 from rfl, e]
          simp only [Option.bind_some, fA_takes_eq]
          rw [kp (h + 5 + 2 * k) (by omega) (by omega), K.1.1, K.1.2.1]
          refine ⟨_, rfl, ?_⟩
          intro a h48 h49
          funext b
          unfold wr
          split
          · rfl
          · split
            · rfl
            · exact congrFun (kp a h48 h49) b
        have hnb : nextS V M k = -1 ∨ (0 ≤ (nextS V M k).toInt ∧ (nextS V M k).toInt < 8) := by
          unfold nextS
          by_cases hz : aimS V M k = -1
          · rw [if_pos hz]; exact Or.inl rfl
          · rw [if_neg hz]
            have h8 := (hab.resolve_left hz).1
            exact nxt_bd _ vo.1.2 _ hroom8 _ (by unfold ix; omega)
        have dWait : DOK V (wr M 55 k (M 55 k + 1)) := DOK_wr_other dk (by decide)
        have dGo : ¬ nextS V M k = -1 → DOK V (wr (wr M 52 k (takesS (V 4 k) (V 5 k) (telS tl V M 0 k t (nextS V M k)))) 51 k (nextS V M k)) := by
          intro hnm j hj
          have d := dk j hj
          rw [wr_ne (show 50 ≠ 51 by decide), wr_ne (show 52 ≠ 51 by decide), wr_ne (show 53 ≠ 51 by decide), wr_ne (show 50 ≠ 52 by decide), wr_ne (show 53 ≠ 52 by decide)]
          by_cases hjk : j = k
          · subst hjk
            rw [wr_same, wr_same]
            have tb := takesS_bd (kind := V 4 j) num ((clS_bd 0 (tl 0 t (M 50 j) (M 56 (ix (M 50 j))) (V 5 j) (nextS V M j) (othS V M j))).2 (by decide))
            exact ⟨d.1, ⟨by unfold telS; omega, by unfold telS; omega⟩, fun _ => hnb.resolve_left hnm, d.2.2.2⟩
          · rw [wr_at hjk, wr_at hjk, wr_ne (show 51 ≠ 52 by decide)]
            exact d
        have kGo : KeepC M (wr (wr M 52 k (takesS (V 4 k) (V 5 k) (telS tl V M 0 k t (nextS V M k)))) 51 k (nextS V M k)) := (KeepC.put (Or.inl (by decide))).trans (KeepC.put (Or.inl (by decide)))
        have kWait : KeepC M (wr M 55 k (M 55 k + 1)) := KeepC.put (Or.inl (by decide))
        by_cases hn1 : nextS V M k = -1
        · rw [if_pos hn1, if_pos (Or.inl hn1)]
          exact ⟨⟨_, rfl, fun a _ _ => rfl⟩, dWait, kWait⟩
        · rw [if_neg hn1]
          by_cases hn2 : nextS V M k = mm
          · rw [if_pos hn2, fA_dares_eq _ _ _ (by rw [K.1.2.1]; exact num), K.1.1, K.1.2.1]
            simp only [Option.bind_some, bz_0]
            by_cases hd : dareB (V 4 k) (V 5 k) t = true
            · rw [if_neg (fun z => z hd), if_neg (by rintro (z | z); exact hn1 z; rw [hd] at z; cases z.2)]
              exact ⟨goOn, dGo hn1, kGo⟩
            · rw [if_pos hd, if_pos (Or.inr ⟨hn2, by simpa using hd⟩)]
              exact ⟨⟨_, rfl, fun a _ _ => rfl⟩, dWait, kWait⟩
          · rw [if_neg hn2, if_neg (by rintro (z | z); exact hn1 z; exact hn2 z.1)]
            exact ⟨goOn, dGo hn1, kGo⟩
end
section
/-! 17: a minute, a morning in the class -/
theorem turnS_congr {V D M : Mem} {tl : Tell} (e : EqD D M) (k : Nat) (t mm : Int32) : EqD (turnS V tl k t mm D) (turnS V tl k t mm M) := by
  have e50 := e 50 (by decide) (by decide)
  have e51 := e 51 (by decide) (by decide)
  have e52 := e 52 (by decide) (by decide)
  have e53 := e 53 (by decide) (by decide)
  have e54 := e 54 (by decide) (by decide)
  have e55 := e 55 (by decide) (by decide)
  have e56 := e 56 (by decide) (by decide)
  have e45 := e 45 (by decide) (by decide)
  have ea : aimS V M k = aimS V D k := by unfold aimS; rw [e53]
  have en : nextS V M k = nextS V D k := by unfold nextS; rw [ea, e50]
  have et : ∀ p b, telS tl V M p k t b = telS tl V D p k t b := fun p b => by
    unfold telS othS
    rw [e50, e56, othF_congr (D := D) e50 e52]
  have w1 : ∀ (x j : Nat) (v : Int32), EqD (wr D x j v) (wr M x j v) := fun x j v a h1 h2 => by
    funext b
    unfold wr
    rw [e a h1 h2]
  have w2 : ∀ (x j : Nat) (v : Int32) (x2 j2 : Nat) (v2 : Int32), EqD (wr (wr D x j v) x2 j2 v2) (wr (wr M x j v) x2 j2 v2) := fun x j v x2 j2 v2 a h1 h2 => by
    funext b
    unfold wr
    rw [e a h1 h2]
  unfold turnS
  simp only [e50, e51, e52, e53, e54, e55, e56, e45, ea, en, et]
  split
  · split
    · exact w2 _ _ _ _ _ _
    · exact w1 _ _ _
  · split
    · exact w2 _ _ _ _ _ _
    · split
      · split
        · exact w2 _ _ _ _ _ _
        · exact w1 _ _ _
      · split
        · exact w1 _ _ _
        · exact w2 _ _ _ _ _ _
theorem turnS_45 {V D : Mem} {tl : Tell} {k j : Nat} {t mm : Int32} (hj : j ≠ 13) : turnS V tl k t mm D 45 j = D 45 j := by
  unfold turnS
  repeat' split
  all_goals (unfold wr; simp [hj])
theorem turnS_row {V D : Mem} {tl : Tell} {k a : Nat} {t mm : Int32} (ha : a ≠ 45 ∧ (a < 50 ∨ 56 < a)) : turnS V tl k t mm D a = D a := by
  have h : ∀ (M : Mem) (x j : Nat) (v : Int32), x = 45 ∨ (50 ≤ x ∧ x ≤ 56) → wr M x j v a = M a := fun M x j v hx => wr_ne (by omega)
  unfold turnS
  repeat' split
  all_goals (first | rw [h _ _ _ _ (by decide), h _ _ _ _ (by decide)] | rw [h _ _ _ _ (by decide)])
theorem CV.eqd {h : Nat} {V D M : Mem} {tl : Tell} (c : CV h V tl D) (e : EqD D M) : CV h V tl M := c.keep ⟨fun a _ h2 => e a (by omega) (by omega), by rw [e 45 (by decide) (by decide)]⟩
theorem DOK.eqd {V D M : Mem} (d : DOK V D) (e : EqD D M) : DOK V M := by
  intro k hk
  rw [e 50 (by decide) (by decide), e 51 (by decide) (by decide), e 52 (by decide) (by decide), e 53 (by decide) (by decide)]
  exact d k hk
/-- the bits of the rooms that are on lists -/
def AskOK (V : Mem) (x : Int32) : Prop := ∀ r, r < 8 → (((x >>> (nI r &&& 31)) &&& 1 = 0) ↔ ¬ ∃ k, k < vM V ∧ ∃ i, i < vL V k ∧ ix (V (8 + k) i) = r)
theorem doneS_iff {V D : Mem} : doneS V D = true ↔ ∀ k, k < vM V → ∀ i, i < vL V k → (D 56 (ix (V (8 + k) i))).toInt ≤ 0 := by
  unfold doneS
  simp only [List.all_eq_true, List.mem_range, decide_eq_true_eq]
theorem fD_isAllDone_eq {V M : Mem} (vo : VOK V) (ask : AskOK V (M 45 12)) : fD_isAllDone M = some (bz (doneS V M = true), M) := by
  have e0 : (0 : Int32).toInt = 0 := rfl
  have hb : doneS V M = true ↔ ∀ q, q < 8 → ((M 45 12 >>> (nI q &&& 31)) &&& 1 = 0) ∨ (M 56 q).toInt ≤ 0 := by
    rw [doneS_iff]
    constructor
    · intro hh q hq
      by_cases z : (M 45 12 >>> (nI q &&& 31)) &&& 1 = 0
      · exact Or.inl z
      · right
        have : ∃ k, k < vM V ∧ ∃ i, i < vL V k ∧ ix (V (8 + k) i) = q := Classical.byContradiction (fun w => z ((ask q hq).mpr w))
        obtain ⟨k, hk, i, hi, e⟩ := this
        rw [← e]
        exact hh k hk i hi
    · intro hh k hk i hi
      have hb := (vo.2.2.2 k hk).2.2.2 i hi
      rcases hh _ (ix_lt hb) with z | z
      · exact absurd ⟨k, hk, i, hi, rfl⟩ ((ask _ (ix_lt hb)).mp z)
      · exact z
  have loop : ∀ (c r z : Nat), r + c = 8 → c < z → (∀ q, q < r → ((M 45 12 >>> (nI q &&& 31)) &&& 1 = 0) ∨ (M 56 q).toInt ≤ 0) → fD_isAllDone_b2 z (nI r) M = some (bz (doneS V M = true), M) := by
    intro c
    induction c with
    | zero =>
      intro r z hr hz hq
      obtain ⟨z, rfl⟩ := Nat.exists_eq_succ_of_ne_zero (show z ≠ 0 by omega)
      have : r = 8 := by omega
      subst this
      rw [fD_isAllDone_b2, if_pos (by decide), bz, if_pos (hb.mpr hq)]
    | succ c ih =>
      intro r z hr hz hq
      obtain ⟨z, rfl⟩ := Nat.exists_eq_succ_of_ne_zero (show z ≠ 0 by omega)
      rw [fD_isAllDone_b2, if_neg (by rw [show (8 : Int32) = nI 8 from rfl, n_le (by omega) (by omega)]; omega)]
      simp only [fD_isAllDone_b30, if_pos (ib_nI (show r < 8 by omega) (by omega)), ix_nI (show r < 2147483648 by omega), nI_1]
      have step : ((M 45 12 >>> (nI r &&& 31)) &&& 1 = 0) ∨ (M 56 r).toInt ≤ 0 → ∀ q, q < r + 1 → ((M 45 12 >>> (nI q &&& 31)) &&& 1 = 0) ∨ (M 56 q).toInt ≤ 0 := by
        intro h q hq2
        by_cases hqr : q = r
        · subst hqr; exact h
        · exact hq q (by omega)
      by_cases h1 : (M 45 12 >>> (nI r &&& 31)) &&& 1 = 0
      · rw [if_pos h1]
        exact ih (r + 1) z (by omega) (by omega) (step (Or.inl h1))
      · rw [if_neg h1]
        by_cases h2 : M 56 r ≤ 0
        · rw [if_pos h2]
          rw [i_le, e0] at h2
          exact ih (r + 1) z (by omega) (by omega) (step (Or.inr h2))
        · rw [if_neg h2, bz, if_neg]
          intro w
          rw [i_le, e0] at h2
          rcases (hb.mp w) r (by omega) with z | z
          · exact h1 z
          · exact h2 z
  unfold fD_isAllDone
  have := loop 8 0 1000 (by omega) (by omega) (fun q hq => by omega)
  rw [show (0 : Int32) = nI 0 from rfl, this]
theorem turnsF_45 {V : Mem} {tl : Tell} {t mm : Int32} {j : Nat} (hj : j ≠ 13) : ∀ (c k : Nat) (D : Mem), turnsF V tl t mm c k D 45 j = D 45 j
  | 0, _, _ => rfl
  | c + 1, k, D => by rw [turnsF, turnsF_45 hj c (k + 1), turnS_45 hj]
theorem turnsF_row {V : Mem} {tl : Tell} {t mm : Int32} {a : Nat} (ha : a ≠ 45 ∧ (a < 50 ∨ 56 < a)) : ∀ (c k : Nat) (D : Mem), turnsF V tl t mm c k D a = D a
  | 0, _, _ => rfl
  | c + 1, k, D => by rw [turnsF, turnsF_row ha c (k + 1), turnS_row ha]
theorem fD_turns_eq {h : Nat} {V : Mem} {tl : Tell} (t mm : Int32) : ∀ (c k z : Nat) (D M : Mem), k + c = vM V → c < z → CV h V tl M → DOK V M → AskOK V (M 45 12) → EqD D M → ∃ M', fD_pass_b11 t mm z (nI k) M = (if M' 45 14 = -1 then (some (bz (doneS V M' = true), M')).bind (fun w4 => if w4.1 = 0 then some w4.2 else some (wr w4.2 45 14 t)) else some M') ∧ EqD (turnsF V tl t mm c k D) M' ∧ CV h V tl M' ∧ DOK V M' := by
  intro c
  induction c with
  | zero =>
    intro k z D M hk hz cv dk ask e
    obtain ⟨z, rfl⟩ := Nat.exists_eq_succ_of_ne_zero (show z ≠ 0 by omega)
    have F := cv.f
    have m4 := cv.2.2.2.1.2.2.1.2
    refine ⟨M, ?_, e, cv, dk⟩
    rw [fD_pass_b11, if_pos F.2.1, F.1, F.2.2.2.2.1, if_pos (by rw [n_le (by omega) (by omega)]; omega), fD_isAllDone_eq cv.2.2.2.1 ask]
  | succ c ih =>
    intro k z D M hk hz cv dk ask e
    obtain ⟨z, rfl⟩ := Nat.exists_eq_succ_of_ne_zero (show z ≠ 0 by omega)
    have F := cv.f
    have m4 := cv.2.2.2.1.2.2.1.2
    obtain ⟨⟨M1, e1, q1⟩, d1, k1⟩ := fD_turn_eq cv dk (show k < vM V by omega) t mm
    rw [fD_pass_b11, if_pos F.2.1, F.1, F.2.2.2.2.1, if_neg (by rw [n_le (by omega) (by omega)]; omega), e1]
    simp only [Option.bind_some, nI_1]
    have ask1 : AskOK V (M1 45 12) := by rw [q1 45 (by decide) (by decide), turnS_45 (by decide)]; exact ask
    have e2 : EqD (turnS V tl k t mm D) M1 := fun a h1 h2 => by rw [q1 a h1 h2]; exact turnS_congr e k t mm a h1 h2
    obtain ⟨M', r1, r2⟩ := ih (k + 1) z (turnS V tl k t mm D) M1 (by omega) (by omega) ((cv.keep k1).eqd q1) (d1.eqd q1) ask1 e2
    exact ⟨M', r1, r2⟩
theorem doneS_congr {V D M : Mem} (e : M 56 = D 56) : doneS V M = doneS V D := by unfold doneS; rw [e]
theorem fD_pass_eq {h : Nat} {V : Mem} {tl : Tell} (t : Int32) {D M : Mem} (cv : CV h V tl M) (dk : DOK V M) (ask : AskOK V (M 45 12)) (e : EqD D M) : ∃ M', fD_pass t M = some M' ∧ EqD (passS V tl t D) M' ∧ CV h V tl M' ∧ DOK V M' ∧ AskOK V (M' 45 12) := by
  have F := cv.f
  have vo := cv.2.2.2.1
  have n8 := vo.2.1.2.1
  unfold fD_pass
  rw [if_pos F.2.1, F.1, fH_masterIn_eq t F.2.2.2.1 n8]
  simp only [Option.bind_some]
  rw [mst_congr (r' := V 1) (m' := V 2) t F.2.2.2.2.2.1]
  obtain ⟨M', r1, r2, r3, r4⟩ := fD_turns_eq t (mst (vN V) (V 1) (V 2) t) (vM V) 0 1000 D M (by omega) (by have := vo.2.2.1.2; omega) cv dk ask e
  rw [show (0 : Int32) = nI 0 from rfl, r1]
  have e45 := r2 45 (by decide) (by decide)
  have e56 := r2 56 (by decide) (by decide)
  have a12 : M' 45 12 = M 45 12 := by rw [e45, turnsF_45 (by decide), e 45 (by decide) (by decide)]
  unfold passS
  dsimp only
  rw [← doneS_congr e56, ← e45]
  by_cases h1 : M' 45 14 = -1
  · rw [if_pos h1]
    simp only [Option.bind_some, bz_0]
    by_cases h2 : doneS V M' = true
    · rw [if_neg (fun z => z h2), if_pos ⟨h1, h2⟩]
      refine ⟨_, rfl, ?_, r3.keep (KeepC.put (Or.inr ⟨rfl, by decide⟩)), DOK_wr_other r4 (by decide), ?_⟩
      · intro a x1 x2
        funext b
        unfold wr
        rw [r2 a x1 x2]
      · rw [wr_at (by decide), a12]; exact ask
    · rw [if_pos h2, if_neg (fun z => h2 z.2)]
      exact ⟨_, rfl, r2, r3, r4, by rw [a12]; exact ask⟩
  · rw [if_neg h1, if_neg (fun z => h1 z.1)]
    exact ⟨_, rfl, r2, r3, r4, by rw [a12]; exact ask⟩
theorem fD_run_b7_eq {h : Nat} {V : Mem} {tl : Tell} {n : Nat} (hn : n ≤ 100) : ∀ (c t z : Nat) (D M : Mem), t + c = n → c < z → CV h V tl M → DOK V M → AskOK V (M 45 12) → EqD D M → ∃ M', fD_run_b7 (nI n) z (nI t) M = some M' ∧ EqD (dayF V tl c t D) M' ∧ CV h V tl M' ∧ DOK V M' := by
  intro c
  induction c with
  | zero =>
    intro t z D M ht hz cv dk ask e
    obtain ⟨z, rfl⟩ := Nat.exists_eq_succ_of_ne_zero (show z ≠ 0 by omega)
    rw [fD_run_b7, if_pos (by rw [n_le (by omega) (by omega)]; omega)]
    exact ⟨_, rfl, e, cv, dk⟩
  | succ c ih =>
    intro t z D M ht hz cv dk ask e
    obtain ⟨z, rfl⟩ := Nat.exists_eq_succ_of_ne_zero (show z ≠ 0 by omega)
    obtain ⟨M1, r1, r2, r3, r4, r5⟩ := fD_pass_eq (nI t) cv dk ask e
    rw [fD_run_b7, if_neg (by rw [n_le (by omega) (by omega)]; omega), r1]
    simp only [Option.bind_some, nI_1]
    exact ih (t + 1) z _ M1 (by omega) (by omega) r3 r4 r5 r2
end
section
/-! 18: how a day begins in the class -/
theorem wr_self (M : Mem) (k j : Nat) : wr M k j (M k j) = M := by
  funext a b
  unfold wr
  split
  · rename_i h; rw [h.1, h.2]
  · rfl
theorem wr_wr (M : Mem) (k j : Nat) (v w : Int32) : wr (wr M k j v) k j w = wr M k j w := by
  funext a b
  unfold wr
  split
  · rfl
  · rfl
/-- x has the bits of the rooms r with P r -/
def Bit (x : Int32) (P : Nat → Prop) : Prop := ∃ n, n < 256 ∧ x = nI n ∧ ∀ r, r < 8 → (((x >>> (nI r &&& 31)) &&& 1 = 0) ↔ ¬ P r)
theorem bit_fin : ∀ n, n < 256 → ∀ q, q < 8 → (nI n ||| (1 <<< (nI q &&& 31))) = nI (n ||| 1 <<< q) ∧ (n ||| 1 <<< q) < 256 ∧ ∀ r, r < 8 → (((nI (n ||| 1 <<< q) >>> (nI r &&& 31)) &&& 1 = 0) ↔ (((nI n >>> (nI r &&& 31)) &&& 1 = 0) ∧ q ≠ r)) := by decide +kernel
theorem Bit.or {x : Int32} {P : Nat → Prop} (h : Bit x P) {q : Nat} (hq : q < 8) : Bit (x ||| (1 <<< (nI q &&& 31))) (fun r => P r ∨ q = r) := by
  obtain ⟨n, h1, rfl, h3⟩ := h
  obtain ⟨f1, f2, f3⟩ := bit_fin n h1 q hq
  refine ⟨n ||| 1 <<< q, f2, f1, fun r hr => ?_⟩
  rw [f1, f3 r hr, h3 r hr, not_or]
theorem Bit.iff {x : Int32} {P Q : Nat → Prop} (h : Bit x P) (e : ∀ r, r < 8 → (P r ↔ Q r)) : Bit x Q := by
  obtain ⟨n, h1, h2, h3⟩ := h
  exact ⟨n, h1, h2, fun r hr => by rw [h3 r hr, e r hr]⟩
theorem Bit.zero : Bit 0 (fun _ => False) := ⟨0, by decide, rfl, by decide +kernel⟩
/-- the rooms on the lists of the first k maids -/
def OnL (V : Mem) (k : Nat) (r : Nat) : Prop := ∃ j, j < k ∧ ∃ i, i < vL V j ∧ ix (V (8 + j) i) = r
theorem fD_start_b116_eq {h : Nat} {V : Mem} {tl : Tell} {N : Mem} (cv : CV h V tl N) {k : Nat} (hk : k < vM V) (k54 : Int32 → Mem → Option Mem) : ∀ (c i z : Nat) (x : Int32), i + c = vL V k → c < z → Bit x (fun r => OnL V k r ∨ ∃ j, j < i ∧ ix (V (8 + k) j) = r) → ∃ x', fD_start_b116 k54 (nI k) (h + 5 + 2 * k) z (nI i) (wr N 45 12 x) = k54 (nI (k + 1)) (wr N 45 12 x') ∧ Bit x' (OnL V (k + 1)) := by
  have F := cv.f
  have vo := cv.2.2.2.1
  have m4 := vo.2.2.1.2
  have K := F.2.2.2.2.2.2.2 k hk
  have VK := vo.2.2.2 k hk
  have l5 := VK.2.2.1.2
  have hl : h < 28 := by have := cv.1; unfold hOK at this; omega
  intro c
  induction c with
  | zero =>
    intro i z x hi hz hb
    obtain ⟨z, rfl⟩ := Nat.exists_eq_succ_of_ne_zero (show z ≠ 0 by omega)
    rw [fD_start_b116, wr_ne (show h + 5 + 2 * k ≠ 45 by omega), K.1.2.2.2, VK.2.2.1.1, if_pos (by rw [n_le (by omega) (by omega)]; omega), nI_1]
    refine ⟨x, rfl, hb.iff (fun r _ => ?_)⟩
    have hi : i = vL V k := by omega
    subst hi
    constructor
    · rintro (⟨j, h1, h2⟩ | ⟨j, h1, h2⟩)
      · exact ⟨j, by omega, h2⟩
      · exact ⟨k, by omega, j, h1, h2⟩
    · rintro ⟨j, h1, i, h2, h3⟩
      by_cases hj : j = k
      · subst hj; exact Or.inr ⟨i, h2, h3⟩
      · exact Or.inl ⟨j, by omega, i, h2, h3⟩
  | succ c ih =>
    intro i z x hi hz hb
    obtain ⟨z, rfl⟩ := Nat.exists_eq_succ_of_ne_zero (show z ≠ 0 by omega)
    have g8 := VK.2.2.2 i (by omega)
    rw [fD_start_b116, wr_ne (show h + 5 + 2 * k ≠ 45 by omega), K.1.2.2.2, VK.2.2.1.1, if_neg (by rw [n_le (by omega) (by omega)]; omega), if_pos (ib_nI (by omega) (by omega)), ix_nI (by omega), wr_same, wr_wr, wr_ne (show h + 5 + 2 * k + 1 ≠ 45 by omega), show h + 5 + 2 * k + 1 = h + 6 + 2 * k by omega, K.2 i (by omega), nI_1]
    refine ih (i + 1) z _ (by omega) (by omega) ?_
    rw [(of_ib g8).1]
    refine (hb.or (of_ib g8).2).iff (fun r _ => ?_)
    constructor
    · rintro ((h1 | ⟨j, h1, h2⟩) | h1)
      · exact Or.inl h1
      · exact Or.inr ⟨j, by omega, h2⟩
      · exact Or.inr ⟨i, by omega, h1⟩
    · rintro (h1 | ⟨j, h1, h2⟩)
      · exact Or.inl (Or.inl h1)
      · by_cases hj : j = i
        · subst hj; exact Or.inr h2
        · exact Or.inl (Or.inr ⟨j, by omega, h2⟩)
theorem fD_start_b54_eq {h : Nat} {V : Mem} {tl : Tell} : ∀ (c k z : Nat) (N : Mem), k + c = vM V → c < z → CV h V tl N → (∀ j, j < k → N 50 j = V 6 j ∧ N 52 j = 0 ∧ N 53 j = 0 ∧ N 54 j = 0 ∧ N 55 j = 0) → Bit (N 45 12) (OnL V k) → ∃ N', fD_start_b54 z (nI k) N = some N' ∧ CV h V tl N' ∧ KeepC N N' ∧ (∀ j, j < vM V → N' 50 j = V 6 j ∧ N' 52 j = 0 ∧ N' 53 j = 0 ∧ N' 54 j = 0 ∧ N' 55 j = 0) ∧ Bit (N' 45 12) (OnL V (vM V)) ∧ N' 56 = N 56 ∧ N' 45 13 = N 45 13 ∧ N' 45 14 = N 45 14 := by
  intro c
  induction c with
  | zero =>
    intro k z N hk hz cv st hb
    obtain ⟨z, rfl⟩ := Nat.exists_eq_succ_of_ne_zero (show z ≠ 0 by omega)
    have F := cv.f
    have m4 := cv.2.2.2.1.2.2.1.2
    have : k = vM V := by omega
    subst this
    rw [fD_start_b54, if_pos F.2.1, F.1, F.2.2.2.2.1, if_pos (by rw [n_le (by omega) (by omega)]; omega)]
    exact ⟨N, rfl, cv, KeepC.rfl', st, hb, rfl, rfl, rfl⟩
  | succ c ih =>
    intro k z N hk hz cv st hb
    obtain ⟨z, rfl⟩ := Nat.exists_eq_succ_of_ne_zero (show z ≠ 0 by omega)
    have F := cv.f
    have m4 := cv.2.2.2.1.2.2.1.2
    have K := F.2.2.2.2.2.2.2 k (by omega)
    have gk : ib (nI k) 4 := ib_nI (by omega) (by omega)
    have ek : ix (nI k) = k := ix_nI (by omega)
    have hl : h < 28 := by have := cv.1; unfold hOK at this; omega
    rw [fD_start_b54, if_pos F.2.1, F.1, F.2.2.2.2.1, if_neg (by rw [n_le (by omega) (by omega)]; omega), if_pos cv.1, if_pos gk, if_pos gk, if_pos gk, if_pos gk, if_pos gk, if_pos gk, ek, K.1.2.2.1]
    generalize hN : wr (wr (wr (wr (wr N 50 k (V 6 k)) 52 k 0) 53 k 0) 54 k 0) 55 k 0 = N1
    have k1 : KeepC N N1 := by
      rw [← hN]
      exact ((((KeepC.put (Or.inl (by decide))).trans (KeepC.put (Or.inl (by decide)))).trans (KeepC.put (Or.inl (by decide)))).trans (KeepC.put (Or.inl (by decide)))).trans (KeepC.put (Or.inl (by decide)))
    have c1 := cv.keep k1
    have r45 : N1 45 = N 45 := by rw [← hN, wr_ne (by decide), wr_ne (by decide), wr_ne (by decide), wr_ne (by decide), wr_ne (by decide)]
    have r56 : N1 56 = N 56 := by rw [← hN, wr_ne (by decide), wr_ne (by decide), wr_ne (by decide), wr_ne (by decide), wr_ne (by decide)]
    have st1 : ∀ j, j < k + 1 → N1 50 j = V 6 j ∧ N1 52 j = 0 ∧ N1 53 j = 0 ∧ N1 54 j = 0 ∧ N1 55 j = 0 := by
      intro j hj
      rw [← hN]
      by_cases hjk : j = k
      · subst hjk; simp [wr]
      · have := st j (by omega)
        simp [wr, hjk]
        exact this
    obtain ⟨x', e1, b1⟩ := fD_start_b116_eq c1 (show k < vM V by omega) (fD_start_b54 z) (vL V k) 0 1000 (N1 45 12) (by omega) (by have := (cv.2.2.2.1.2.2.2 k (by omega)).2.2.1.2; omega) (by rw [r45]; exact hb.iff (fun r _ => ⟨Or.inl, fun w => w.elim id (fun ⟨j, a, _⟩ => absurd a (by omega))⟩))
    rw [wr_self] at e1
    rw [show (0 : Int32) = nI 0 from rfl, e1]
    have k2 : KeepC N1 (wr N1 45 12 x') := KeepC.put (Or.inr ⟨rfl, by decide⟩)
    obtain ⟨N', e2, c2, k3, s2, b2, r1, r2, r3⟩ := ih (k + 1) z (wr N1 45 12 x') (by omega) (by omega) (c1.keep k2) (fun j hj => by
      rw [wr_ne (by decide), wr_ne (by decide), wr_ne (by decide), wr_ne (by decide), wr_ne (by decide)]; exact st1 j hj) (by rw [wr_same]; exact b1)
    refine ⟨N', e2, c2, (k1.trans k2).trans k3, s2, b2, ?_, ?_, ?_⟩
    · rw [r1, wr_ne (by decide), r56]
    · rw [r2, wr_at (by decide), r45]
    · rw [r3, wr_at (by decide), r45]
theorem DOK.start {V D : Mem} (vo : VOK V) (s : Start V D) : DOK V D := by
  intro k hk
  obtain ⟨a, b, c, _⟩ := s.1 k hk
  have v := vo.2.2.2 k hk
  rw [a, b, c]
  refine ⟨v.2.1, by decide, fun z => absurd z (by decide), by decide, ?_⟩
  rw [v.2.2.1.1, nI_t (by have := v.2.2.1.2; omega)]
  show (0 : Int) ≤ _
  omega
/-- the house of base h is V, with the rule tl, and the ways' table is right: a day can begin -/
def HV (h : Nat) (V : Mem) (tl : Tell) (M : Mem) : Prop := hOK h ∧ V = viewC h M ∧ VOK V ∧ ib (M h 3) 6 ∧ VCl (59 + 3 * ix (M h 3)) tl (M (60 + 3 * ix (M h 3))) (M (61 + 3 * ix (M h 3))) ∧ LW M
/-- what a day leaves alone -/
def KeepD (M N : Mem) : Prop := ∀ a, (a < 45 ∨ 56 < a) → N a = M a
theorem KeepD.trans {M N O : Mem} (a : KeepD M N) (b : KeepD N O) : KeepD M O := fun x h => (b x h).trans (a x h)
theorem KeepC.d {M N : Mem} (k : KeepC M N) : KeepD M N := fun a h => k.1 a (by omega) (by omega)
theorem HV.keep {h : Nat} {V : Mem} {tl : Tell} {M N : Mem} (c : HV h V tl M) (k : KeepD M N) (lw : LW N) : HV h V tl N := by
  obtain ⟨c1, c2, c3, c4, c5, -⟩ := c
  have hl : h < 28 := by unfold hOK at c1; omega
  have hm : ix (M h 2) ≤ 4 := by
    have := c3.2.2.1.2
    rw [c2] at this
    exact this
  have e0 : N h = M h := k h (by omega)
  have hr := ix_lt c4
  refine ⟨c1, c2.trans (viewC_keep c1 hm (fun a h => k a (by omega))).symm, c3, by rw [e0]; exact c4, ?_, lw⟩
  rw [e0, k _ (by omega), k _ (by omega)]
  exact c5
theorem fD_start_eq {h : Nat} {V : Mem} {tl : Tell} {M : Mem} (hv : HV h V tl M) : ∃ M', fD_start h M = some M' ∧ CV h V tl M' ∧ Start V M' ∧ AskOK V (M' 45 12) ∧ LW M' ∧ KeepD M M' := by
  obtain ⟨h1, h2, h3, h4, h5, h6⟩ := hv
  have hl : h < 28 := by unfold hOK at h1; omega
  have hm : ix (M h 2) ≤ 4 := by
    have := h3.2.2.1.2
    rw [h2] at this
    exact this
  have hr := ix_lt h4
  have eh : ix (nI h) = h := ix_nI (by omega)
  have s0 : M h 0 = nI (vS V) := by
    have := h3.1.1
    rw [← this, h2]; rfl
  unfold fD_start
  rw [wr_same, eh, if_pos h1, wr_ne (show h ≠ 45 by omega), s0]
  have lw1 : LW (wr M 45 0 (nI h)) := by
    intro s hs he i hi
    rw [wr_ne (show 46 ≠ 45 by decide)] at he
    rw [wr_ne (show 47 ≠ 45 by decide)]
    exact h6 s hs he i hi
  rw [fY_lay_eq h3.1.2 lw1]
  simp only [Option.bind_some]
  generalize hM2 : layM (vS V) (wr M 45 0 (nI h)) = M2
  have lw2 : LW M2 := hM2 ▸ layM_LW h3.1.2
  have r2 : ∀ a, a ≠ 46 → a ≠ 47 → M2 a = wr M 45 0 (nI h) a := by
    intro a x1 x2
    rw [← hM2]
    funext b
    unfold layM
    rw [if_neg (fun z => x1 z.1), if_neg (fun z => x2 z.1)]
  have a45 : M2 45 0 = nI h := by rw [r2 45 (by decide) (by decide), wr_same]
  have k2 : KeepD M M2 := fun a ha => by rw [r2 a (by omega) (by omega), wr_ne (by omega)]
  have cv2 : CV h V tl M2 := by
    refine ⟨h1, a45, h2.trans (viewC_keep h1 hm (fun a ha => k2 a (by omega))).symm, h3, by rw [k2 h (by omega)]; exact h4, ?_, ?_⟩
    · rw [k2 h (by omega), k2 _ (by omega), k2 _ (by omega)]; exact h5
    · intro i hi
      rw [← hM2]
      unfold layM
      rw [if_neg (by omega), if_pos ⟨rfl, hi⟩]
  rw [a45, eh, if_pos h1, if_pos (by decide)]
  generalize hM3 : wr (wr (wr (wrR M2 56 (va_cpy (M2 (h + 3)) (M2 56) (ix 0) (ix 0) (ix 8))) 45 12 0) 45 13 0) 45 14 (-1) = M3
  have k3 : KeepC M2 M3 := by
    rw [← hM3]
    refine KeepC.trans (KeepC.trans (KeepC.trans ?_ (KeepC.put (Or.inr ⟨rfl, by decide⟩))) (KeepC.put (Or.inr ⟨rfl, by decide⟩))) (KeepC.put (Or.inr ⟨rfl, by decide⟩))
    refine ⟨fun a x1 x2 => ?_, ?_⟩
    · unfold wrR; rw [if_neg (by omega)]
    · unfold wrR; rw [if_neg (by decide)]
  have F := cv2.f
  have e56 : ∀ r, r < 8 → M3 56 r = V 3 r := by
    intro r hr
    rw [← hM3, wr_ne (by decide), wr_ne (by decide), wr_ne (by decide)]
    unfold wrR va_cpy
    rw [if_pos rfl, show ix 0 = 0 from rfl, show ix 8 = 8 from rfl, if_pos (by omega), ← F.2.2.2.2.2.2.1 r hr]
    congr 1
    omega
  have e12 : M3 45 12 = 0 := by rw [← hM3]; simp [wr]
  have e13 : M3 45 13 = 0 := by rw [← hM3]; simp [wr]
  have e14 : M3 45 14 = -1 := by rw [← hM3]; simp [wr]
  have z4 := h3.2.2.1.2
  obtain ⟨N', q1, q2, q3, q4, q5, q6, q7, q8⟩ := fD_start_b54_eq (vM V) 0 1000 M3 (by omega) (by omega) (cv2.keep k3) (fun j hj => absurd hj (by omega)) (by rw [e12]; exact Bit.zero.iff (fun r _ => ⟨False.elim, fun ⟨j, hj, _⟩ => absurd hj (by omega)⟩))
  refine ⟨N', q1, q2, ⟨q4, fun r hr => by rw [q6]; exact e56 r hr, by rw [q7]; exact e13, by rw [q8]; exact e14⟩, ?_, ?_, (k2.trans k3.d).trans q3.d⟩
  · obtain ⟨n, _, _, b⟩ := q5
    exact b
  · have k4 := k3.trans q3
    intro s hs he i hi
    rw [k4.1 46 (by decide) (by decide)] at he
    rw [k4.1 47 (by decide) (by decide)]
    exact lw2 s hs he i hi
end
section
/-! 19: a day depends on what can be seen of its beginning only -/
def DEq (V D E : Mem) : Prop := (∀ k, k < vM V → D 50 k = E 50 k ∧ D 52 k = E 52 k ∧ (0 < (D 52 k).toInt → D 51 k = E 51 k) ∧ D 53 k = E 53 k ∧ D 54 k = E 54 k ∧ D 55 k = E 55 k) ∧ (∀ r, r < 8 → D 56 r = E 56 r) ∧ D 45 13 = E 45 13 ∧ D 45 14 = E 45 14
theorem aimS_bd' {V D : Mem} (vo : VOK V) (dk : DOK V D) {k : Nat} (hk : k < vM V) : aimS V D k = -1 ∨ (0 ≤ (aimS V D k).toInt ∧ (aimS V D k).toInt < 8 ∧ (D 53 k).toInt < (V 7 k).toInt) := by
  rcases aimS_bd vo hk (dk k hk).2.2.2.1 with z | z
  · exact Or.inl z
  · have z1 := z.1
    have z2 := z.2
    exact Or.inr (by omega)
theorem nextS_bd {V D : Mem} (vo : VOK V) (dk : DOK V D) {k : Nat} (hk : k < vM V) : nextS V D k = -1 ∨ (0 ≤ (nextS V D k).toInt ∧ (nextS V D k).toInt < 8) := by
  unfold nextS
  by_cases hz : aimS V D k = -1
  · rw [if_pos hz]; exact Or.inl rfl
  · rw [if_neg hz]
    have h8 := (aimS_bd' vo dk hk).resolve_left hz
    exact nxt_bd _ vo.1.2 _ (of_ib (dk k hk).1).2 _ (by unfold ix; omega)
theorem turnS_DOK {V D : Mem} {tl : Tell} (vo : VOK V) (dk : DOK V D) {k : Nat} (hk : k < vM V) (t mm : Int32) : DOK V (turnS V tl k t mm D) := by
  have e0 : (0 : Int32).toInt = 0 := rfl
  have e1 : (1 : Int32).toInt = 1 := rfl
  have num := (vo.2.2.2 k hk).1
  have dK := dk k hk
  unfold turnS
  by_cases hw : 0 < (D 52 k).toInt
  · rw [if_pos hw]
    by_cases hz : D 52 k - 1 = 0
    · rw [if_pos hz]
      intro j hj
      have d := dk j hj
      rw [wr_ne (show 51 ≠ 50 by decide), wr_ne (show 51 ≠ 52 by decide), wr_ne (show 52 ≠ 50 by decide), wr_ne (show 53 ≠ 50 by decide), wr_ne (show 53 ≠ 52 by decide)]
      by_cases hjk : j = k
      · subst hjk
        rw [wr_same, wr_same, hz]
        exact ⟨d.2.2.1 hw, by decide, fun z => absurd z (by decide), d.2.2.2⟩
      · rw [wr_at hjk, wr_ne (show 50 ≠ 52 by decide), wr_at hjk]
        exact d
    · rw [if_neg hz]
      intro j hj
      have d := dk j hj
      rw [wr_ne (show 51 ≠ 52 by decide), wr_ne (show 50 ≠ 52 by decide), wr_ne (show 53 ≠ 52 by decide)]
      by_cases hjk : j = k
      · subst hjk
        rw [wr_same, t_sub (by omega) (by omega), e1]
        exact ⟨d.1, by omega, fun z => d.2.2.1 hw, d.2.2.2⟩
      · rw [wr_at hjk]
        exact d
  · rw [if_neg hw]
    by_cases hm : D 50 k = mm
    · rw [if_pos hm]
      exact DOK_wr_other (DOK_wr_other dk (by decide)) (by decide)
    · rw [if_neg hm]
      by_cases ha : D 50 k = aimS V D k
      · rw [if_pos ha]
        generalize lessS (D 56 (ix (D 50 k))) (worksS (V 4 k) (V 5 k) (telS tl V D 1 k t 0)) = y
        by_cases hyz : y = 0
        · rw [if_pos hyz]
          intro j hj
          have d := dk j hj
          rw [wr_ne (show 50 ≠ 53 by decide), wr_ne (show 51 ≠ 53 by decide), wr_ne (show 52 ≠ 53 by decide), wr_ne (show 50 ≠ 56 by decide), wr_ne (show 51 ≠ 56 by decide), wr_ne (show 52 ≠ 56 by decide)]
          by_cases hjk : j = k
          · subst hjk
            rw [wr_same]
            have hlt : (D 53 j).toInt < (V 7 j).toInt := by
              rcases aimS_bd' vo dk hk with z | z
              · rw [z] at ha
                have h8 := d.1.1
                rw [ha, m1_t] at h8
                omega
              · exact z.2.2
            have h7 := tI_lt (V 7 j)
            rw [t_add (by omega) (by omega), e1]
            exact ⟨d.1, d.2.1, d.2.2.1, by omega⟩
          · rw [wr_at hjk, wr_ne (show 53 ≠ 56 by decide)]
            exact d
        · rw [if_neg hyz]
          exact DOK_wr_other dk (by decide)
      · rw [if_neg ha]
        by_cases hn : nextS V D k = -1 ∨ (nextS V D k = mm ∧ dareB (V 4 k) (V 5 k) t = false)
        · rw [if_pos hn]
          exact DOK_wr_other dk (by decide)
        · rw [if_neg hn]
          have hnm : ¬ nextS V D k = -1 := fun z => hn (Or.inl z)
          intro j hj
          have d := dk j hj
          rw [wr_ne (show 50 ≠ 51 by decide), wr_ne (show 52 ≠ 51 by decide), wr_ne (show 53 ≠ 51 by decide), wr_ne (show 50 ≠ 52 by decide), wr_ne (show 53 ≠ 52 by decide)]
          by_cases hjk : j = k
          · subst hjk
            rw [wr_same, wr_same]
            have tb := takesS_bd (kind := V 4 j) num ((clS_bd 0 (tl 0 t (D 50 j) (D 56 (ix (D 50 j))) (V 5 j) (nextS V D j) (othS V D j))).2 (by decide))
            exact ⟨d.1, ⟨by unfold telS; omega, by unfold telS; omega⟩, fun _ => (nextS_bd vo dk hk).resolve_left hnm, d.2.2.2⟩
          · rw [wr_at hjk, wr_at hjk, wr_ne (show 51 ≠ 52 by decide)]
            exact d
theorem turnsF_DOK {V : Mem} {tl : Tell} (vo : VOK V) (t mm : Int32) : ∀ (c k : Nat) (D : Mem), k + c ≤ vM V → DOK V D → DOK V (turnsF V tl t mm c k D)
  | 0, _, _, _, d => d
  | c + 1, k, D, h, d => by
    rw [turnsF]
    exact turnsF_DOK vo t mm c (k + 1) _ (by omega) (turnS_DOK vo d (by omega) t mm)
theorem passS_DOK {V D : Mem} {tl : Tell} (vo : VOK V) (t : Int32) (d : DOK V D) : DOK V (passS V tl t D) := by
  have h := turnsF_DOK (tl := tl) vo t (mst (vN V) (V 1) (V 2) t) (vM V) 0 D (by omega) d
  unfold passS
  dsimp only
  split
  · exact DOK_wr_other h (by decide)
  · exact h
theorem dayF_DOK {V : Mem} {tl : Tell} (vo : VOK V) : ∀ (c t : Nat) (D : Mem), DOK V D → DOK V (dayF V tl c t D)
  | 0, _, _, d => d
  | c + 1, t, D, d => by rw [dayF]; exact dayF_DOK vo c (t + 1) _ (passS_DOK vo _ d)
theorem othF_deq {V D E : Mem} (e : DEq V D E) {k : Nat} (hk : k < vM V) : ∀ (c i : Nat) (acc : Int32), i + c ≤ vM V → othF D k c i acc = othF E k c i acc
  | 0, _, _, _ => rfl
  | c + 1, i, acc, h => by
    obtain ⟨a, b, _⟩ := e.1 i (by omega)
    obtain ⟨a2, _⟩ := e.1 k hk
    rw [othF, othF, a, b, a2]
    exact othF_deq e hk c (i + 1) _ (by omega)
theorem turnS_deq {V D E : Mem} {tl : Tell} (e : DEq V D E) (dk : DOK V D) {k : Nat} (hk : k < vM V) (t mm : Int32) : DEq V (turnS V tl k t mm D) (turnS V tl k t mm E) := by
  obtain ⟨k50, k52, k51, k53, k54, k55⟩ := e.1 k hk
  obtain ⟨x1, x2, x3, x4⟩ := e
  have g8 := ix_lt (dk k hk).1
  have k56 : E 56 (ix (E 50 k)) = D 56 (ix (D 50 k)) := by rw [← k50, x2 _ g8]
  have ea : aimS V E k = aimS V D k := by unfold aimS; rw [k53]
  have en : nextS V E k = nextS V D k := by unfold nextS; rw [ea, k50]
  have et : ∀ p b, telS tl V E p k t b = telS tl V D p k t b := fun p b => by
    unfold telS othS
    rw [k56, k50, othF_deq ⟨x1, x2, x3, x4⟩ hk _ _ _ (by omega)]
  have w : ∀ (x j : Nat) (D E : Mem) (v : Int32), x ≠ 51 → x ≠ 52 → DEq V D E → DEq V (wr D x j v) (wr E x j v) := by
    intro x j D E v h1 h2 ⟨y1, y2, y3, y4⟩
    refine ⟨fun k hk => ?_, fun r hr => ?_, ?_, ?_⟩
    · obtain ⟨z1, z2, z3, z4, z5, z6⟩ := y1 k hk
      rw [wr_ne (show 51 ≠ x from h1.symm), wr_ne (show 52 ≠ x from h2.symm), wr_ne (show 51 ≠ x from h1.symm), wr_ne (show 52 ≠ x from h2.symm)]
      unfold wr
      rw [z1, z4, z5, z6]
      exact ⟨rfl, z2, z3, rfl, rfl, rfl⟩
    · unfold wr; rw [y2 r hr]
    · unfold wr; rw [y3]
    · unfold wr; rw [y4]
  unfold turnS
  rw [← k52, ← k50] at *
  rw [ea, en, k56]
  simp only [et]
  by_cases h1 : 0 < (D 52 k).toInt
  · rw [if_pos h1, if_pos h1]
    by_cases h2 : D 52 k - 1 = 0
    · rw [if_pos h2, if_pos h2, h2, k51 h1]
      apply w 50 k _ _ _ (by decide) (by decide)
      refine ⟨fun j hj => ?_, fun r hr => ?_, ?_, ?_⟩
      · obtain ⟨z1, z2, z3, z4, z5, z6⟩ := x1 j hj
        unfold wr
        by_cases hjk : j = k
        · subst hjk; simp [z1, z4, z5, z6]
        · simp [hjk, z1, z4, z5, z6, z2]
          rw [← z2]; exact z3
      · unfold wr; simp [x2 r hr]
      · unfold wr; simp [x3]
      · unfold wr; simp [x4]
    · rw [if_neg h2, if_neg h2]
      refine ⟨fun j hj => ?_, fun r hr => ?_, ?_, ?_⟩
      · obtain ⟨z1, z2, z3, z4, z5, z6⟩ := x1 j hj
        unfold wr
        by_cases hjk : j = k
        · subst hjk; simp [z1, z4, z5, z6]
          exact fun _ => k51 h1
        · simp [hjk, z1, z4, z5, z6, z2]
          rw [← z2]; exact z3
      · unfold wr; simp [x2 r hr]
      · unfold wr; simp [x3]
      · unfold wr; simp [x4]
  · rw [if_neg h1, if_neg h1]
    by_cases h2 : D 50 k = mm
    · rw [if_pos h2, if_pos h2, ← k54, ← x3]
      exact w 45 13 _ _ _ (by decide) (by decide) (w 54 k _ _ _ (by decide) (by decide) ⟨x1, x2, x3, x4⟩)
    · rw [if_neg h2, if_neg h2]
      by_cases h3 : D 50 k = aimS V D k
      · rw [if_pos h3, if_pos h3]
        split
        · rw [← k53]
          exact w 53 k _ _ _ (by decide) (by decide) (w 56 _ _ _ _ (by decide) (by decide) ⟨x1, x2, x3, x4⟩)
        · exact w 56 _ _ _ _ (by decide) (by decide) ⟨x1, x2, x3, x4⟩
      · rw [if_neg h3, if_neg h3]
        split
        · rw [← k55]
          exact w 55 k _ _ _ (by decide) (by decide) ⟨x1, x2, x3, x4⟩
        · refine ⟨fun j hj => ?_, fun r hr => ?_, ?_, ?_⟩
          · obtain ⟨z1, z2, z3, z4, z5, z6⟩ := x1 j hj
            unfold wr
            by_cases hjk : j = k
            · subst hjk; simp [z1, z4, z5, z6]
            · simp [hjk, z1, z4, z5, z6, z2]
              rw [← z2]; exact z3
          · unfold wr; simp [x2 r hr]
          · unfold wr; simp [x3]
          · unfold wr; simp [x4]
theorem turnsF_deq {V : Mem} {tl : Tell} (vo : VOK V) (t mm : Int32) : ∀ (c k : Nat) (D E : Mem), k + c ≤ vM V → DEq V D E → DOK V D → DEq V (turnsF V tl t mm c k D) (turnsF V tl t mm c k E)
  | 0, _, _, _, _, e, _ => e
  | c + 1, k, D, E, h, e, d => by
    rw [turnsF, turnsF]
    exact turnsF_deq vo t mm c (k + 1) _ _ (by omega) (turnS_deq e d (by omega) t mm) (turnS_DOK vo d (by omega) t mm)
theorem doneS_deq {V D E : Mem} (vo : VOK V) (e : DEq V D E) : doneS V D = doneS V E := by
  have : doneS V D = true ↔ doneS V E = true := by
    rw [doneS_iff, doneS_iff]
    constructor
    · intro h k hk i hi
      rw [← e.2.1 _ (ix_lt ((vo.2.2.2 k hk).2.2.2 i hi))]; exact h k hk i hi
    · intro h k hk i hi
      rw [e.2.1 _ (ix_lt ((vo.2.2.2 k hk).2.2.2 i hi))]; exact h k hk i hi
  by_cases h : doneS V D = true
  · rw [h, this.mp h]
  · rw [Bool.eq_false_iff.mpr h, Bool.eq_false_iff.mpr (fun z => h (this.mpr z))]
theorem passS_deq {V D E : Mem} {tl : Tell} (vo : VOK V) (t : Int32) (e : DEq V D E) (d : DOK V D) : DEq V (passS V tl t D) (passS V tl t E) := by
  have h := turnsF_deq (tl := tl) vo t (mst (vN V) (V 1) (V 2) t) (vM V) 0 D E (by omega) e d
  unfold passS
  dsimp only
  rw [doneS_deq vo h, h.2.2.2]
  split
  · obtain ⟨x1, x2, x3, x4⟩ := h
    refine ⟨fun j hj => ?_, fun r hr => ?_, ?_, ?_⟩
    · rw [wr_ne (by decide), wr_ne (by decide), wr_ne (by decide), wr_ne (by decide), wr_ne (by decide), wr_ne (by decide), wr_ne (by decide), wr_ne (by decide), wr_ne (by decide), wr_ne (by decide), wr_ne (by decide), wr_ne (by decide)]
      exact x1 j hj
    · rw [wr_ne (by decide), wr_ne (by decide)]; exact x2 r hr
    · rw [wr_at (by decide), wr_at (by decide)]; exact x3
    · rw [wr_same, wr_same]
  · exact h
theorem dayF_deq {V : Mem} {tl : Tell} (vo : VOK V) : ∀ (c t : Nat) (D E : Mem), DEq V D E → DOK V D → DEq V (dayF V tl c t D) (dayF V tl c t E)
  | 0, _, _, _, e, _ => e
  | c + 1, t, D, E, e, d => by rw [dayF, dayF]; exact dayF_deq vo c (t + 1) _ _ (passS_deq vo _ e d) (passS_DOK vo _ d)
theorem DEq.trans {V D E F : Mem} (a : DEq V D E) (b : DEq V E F) : DEq V D F := by
  obtain ⟨a1, a2, a3, a4⟩ := a
  obtain ⟨b1, b2, b3, b4⟩ := b
  refine ⟨fun k hk => ?_, fun r hr => (a2 r hr).trans (b2 r hr), a3.trans b3, a4.trans b4⟩
  obtain ⟨z1, z2, z3, z4, z5, z6⟩ := a1 k hk
  obtain ⟨y1, y2, y3, y4, y5, y6⟩ := b1 k hk
  exact ⟨z1.trans y1, z2.trans y2, fun h => (z3 h).trans (y3 (z2 ▸ h)), z4.trans y4, z5.trans y5, z6.trans y6⟩
theorem DEq.symm {V D E : Mem} (a : DEq V D E) : DEq V E D := by
  obtain ⟨a1, a2, a3, a4⟩ := a
  refine ⟨fun k hk => ?_, fun r hr => (a2 r hr).symm, a3.symm, a4.symm⟩
  obtain ⟨z1, z2, z3, z4, z5, z6⟩ := a1 k hk
  exact ⟨z1.symm, z2.symm, fun h => (z3 (z2 ▸ h)).symm, z4.symm, z5.symm, z6.symm⟩
theorem DEq.ofEqD {V D E : Mem} (e : EqD D E) : DEq V D E := by
  refine ⟨fun k hk => ?_, fun r hr => ?_, ?_, ?_⟩
  · rw [e 50 (by decide) (by decide), e 51 (by decide) (by decide), e 52 (by decide) (by decide), e 53 (by decide) (by decide), e 54 (by decide) (by decide), e 55 (by decide) (by decide)]
    exact ⟨rfl, rfl, fun _ => rfl, rfl, rfl, rfl⟩
  · rw [e 56 (by decide) (by decide)]
  · rw [e 45 (by decide) (by decide)]
  · rw [e 45 (by decide) (by decide)]
/-- how the day begins -/
def startS (V : Mem) : Mem := fun a b => if a = 50 then V 6 b else if a = 56 then V 3 b else if a = 45 ∧ b = 14 then -1 else 0
/-- the day up to the minute n -/
def dayS (V : Mem) (tl : Tell) (n : Nat) : Mem := dayF V tl n 0 (startS V)
theorem startS_start (V : Mem) : Start V (startS V) := ⟨fun _ _ => ⟨rfl, rfl, rfl, rfl, rfl⟩, fun _ _ => rfl, rfl, rfl⟩
theorem Start.deq {V D E : Mem} (a : Start V D) (b : Start V E) : DEq V D E := by
  refine ⟨fun k hk => ?_, fun r hr => by rw [a.2.1 r hr, b.2.1 r hr], by rw [a.2.2.1, b.2.2.1], by rw [a.2.2.2, b.2.2.2]⟩
  obtain ⟨z1, z2, z3, z4, z5⟩ := a.1 k hk
  obtain ⟨y1, y2, y3, y4, y5⟩ := b.1 k hk
  rw [z1, z2, z3, z4, z5, y1, y2, y3, y4, y5]
  exact ⟨rfl, rfl, fun h => absurd h (by decide), rfl, rfl, rfl⟩
theorem dayS_DOK {V : Mem} {tl : Tell} (vo : VOK V) (n : Nat) : DOK V (dayS V tl n) := dayF_DOK vo n 0 _ (DOK.start vo (startS_start V))
theorem passS_row {V D : Mem} {tl : Tell} {t : Int32} {a : Nat} (ha : a ≠ 45 ∧ (a < 50 ∨ 56 < a)) : passS V tl t D a = D a := by
  unfold passS
  split
  · rw [wr_ne ha.1, turnsF_row ha]
  · rw [turnsF_row ha]
theorem dayF_row {V : Mem} {tl : Tell} {a : Nat} (ha : a ≠ 45 ∧ (a < 50 ∨ 56 < a)) : ∀ (c t : Nat) (D : Mem), dayF V tl c t D a = D a
  | 0, _, _ => rfl
  | c + 1, t, D => by rw [dayF, dayF_row ha c (t + 1), passS_row ha]
theorem fD_run_eq {h : Nat} {V : Mem} {tl : Tell} {M : Mem} {n : Nat} (hn : n ≤ 100) (hv : HV h V tl M) : ∃ M', fD_run h (nI n) M = some M' ∧ CV h V tl M' ∧ HV h V tl M' ∧ KeepD M M' ∧ DOK V M' ∧ DEq V (dayS V tl n) M' := by
  obtain ⟨M1, e1, c1, s1, a1, l1, k1⟩ := fD_start_eq hv
  have vo := c1.2.2.2.1
  have d1 := DOK.start vo s1
  obtain ⟨M2, e2, q2, c2, d2⟩ := fD_run_b7_eq hn n 0 1000 M1 M1 (by omega) (by omega) c1 d1 a1 (fun a _ _ => rfl)
  unfold fD_run
  rw [e1]
  simp only [Option.bind_some]
  rw [show (0 : Int32) = nI 0 from rfl, e2]
  have r : ∀ a, a ≠ 45 → (a < 48 ∨ 56 < a) → M2 a = M1 a := fun a x1 x2 => by
    rw [q2 a (by omega) (by omega)]
    exact dayF_row ⟨x1, by omega⟩ n 0 M1
  have k2 : KeepD M M2 := fun a ha => by rw [r a (by omega) (by omega)]; exact k1 a ha
  have lw : LW M2 := by
    intro s hs he i hi
    rw [r 46 (by decide) (by decide)] at he
    rw [r 47 (by decide) (by decide)]
    exact l1 s hs he i hi
  exact ⟨M2, rfl, c2, hv.keep k2 lw, k2, d2, (dayF_deq vo n 0 _ _ ((startS_start V).deq s1) (DOK.start vo (startS_start V))).trans (DEq.ofEqD q2)⟩
end
section
/-! 20: the model's day is the morning as it is said in 14 -/
/-- the place of maid k when maid a is not there -/
abbrev sk (a k : Nat) : Nat := if k < a then k else k + 1
abbrev us (a m : Nat) : Nat := if m ≤ a then m else m - 1
abbrev cntM (V : Mem) (a : Nat) : Nat := if a < 4 then vM V + 1 else vM V
/-- M holds the house V with the maid a put in between, who is not there; a = 4: nobody is missing -/
def MV (V : Mem) (a : Nat) (M : Mem) : Prop := (a ≤ 4 ∧ (a < 4 → a ≤ vM V ∧ vM V < 4)) ∧ M 85 7 = nI (vS V) ∧ M 85 11 = nI (vN V) ∧ M 85 17 = nI (cntM V a) ∧ M 85 18 = (if a < 4 then nI a else -1) ∧ (∀ i, i < vN V → M 90 i = V 1 i ∧ M 91 i = V 2 i) ∧ (∀ r, r < 8 → M 89 r = V 3 r) ∧ ∀ k, k < vM V → (M 92 (sk a k) = V 4 k ∧ M 93 (sk a k) = V 5 k ∧ M 94 (sk a k) = V 6 k ∧ M 96 (sk a k) = V 7 k) ∧ ∀ i, i < vL V k → M 95 (5 * sk a k + i) = V (8 + k) i
/-- what a reading leaves alone -/
def KeepR (M N : Mem) : Prop := (∀ a, a ≠ 85 → N a = M a) ∧ ∀ j, (j < 27 ∨ (36 ≤ j ∧ j ≠ 132)) → N 85 j = M 85 j
/-- the text x of the model means tl -/
def VMo (x : Int32) (tl : Tell) (T E : Nat → Int32) : Prop := ∀ (N : Mem) (p : Nat), N 86 = T → N 87 = E → p < 3 → ∃ N', fM_read x (nI p) N = some (tl p (N 85 21) (N 85 22) (N 85 23) (N 85 24) (N 85 25) (N 85 26), N') ∧ KeepR N N'
/-- how the day of the model stands -/
def DM (V : Mem) (a : Nat) (D M : Mem) : Prop := (∀ k, k < vM V → D 50 k = M 98 (sk a k) ∧ D 52 k = M 99 (sk a k) ∧ (0 < (D 52 k).toInt → D 51 k = M 100 (sk a k)) ∧ D 53 k = M 101 (sk a k) ∧ D 54 k = M 102 (sk a k) ∧ D 55 k = M 103 (sk a k)) ∧ (∀ r, r < 8 → D 56 r = M 104 r) ∧ D 45 13 = M 85 43 ∧ D 45 14 = M 85 44
/-- what a day of the model leaves alone -/
def KeepM (M N : Mem) : Prop := (∀ a, a ≠ 85 → (a < 98 ∨ 104 < a) → N a = M a) ∧ ∀ j, (j < 21 ∨ (36 ≤ j ∧ j ≠ 43 ∧ j ≠ 44 ∧ j ≠ 132)) → N 85 j = M 85 j
theorem KeepM.trans {M N O : Mem} (a : KeepM M N) (b : KeepM N O) : KeepM M O := ⟨fun x h1 h2 => (b.1 x h1 h2).trans (a.1 x h1 h2), fun j h => (b.2 j h).trans (a.2 j h)⟩
theorem KeepM.rfl' {M : Mem} : KeepM M M := ⟨fun _ _ _ => rfl, fun _ _ => rfl⟩
theorem KeepR.m {M N : Mem} (k : KeepR M N) : KeepM M N := ⟨fun a h _ => k.1 a h, fun j h => k.2 j (by omega)⟩
theorem KeepM.put {M : Mem} {k j : Nat} {v : Int32} (h : (98 ≤ k ∧ k ≤ 104) ∨ (k = 85 ∧ ((21 ≤ j ∧ j < 36) ∨ j = 43 ∨ j = 44 ∨ j = 132))) : KeepM M (wr M k j v) := by
  refine ⟨fun a h1 h2 => wr_ne (by omega), fun i hi => ?_⟩
  unfold wr
  rw [if_neg (by omega)]
theorem MV.keep {V M N : Mem} {a : Nat} (v : MV V a M) (k : KeepM M N) : MV V a N := by
  obtain ⟨h1, h2, h3, h4, h5, h6, h7, h8⟩ := v
  unfold MV
  rw [k.2 7 (by decide), k.2 11 (by decide), k.2 17 (by decide), k.2 18 (by decide), k.1 89 (by decide) (by decide), k.1 90 (by decide) (by decide), k.1 91 (by decide) (by decide), k.1 92 (by decide) (by decide), k.1 93 (by decide) (by decide), k.1 94 (by decide) (by decide), k.1 95 (by decide) (by decide), k.1 96 (by decide) (by decide)]
  exact ⟨h1, h2, h3, h4, h5, h6, h7, h8⟩
theorem TB97.keep {s : Nat} {M N : Mem} (v : TB97 s M) (k : KeepM M N) : TB97 s N := by
  unfold TB97
  rw [k.2 7 (by decide), k.1 97 (by decide) (by decide)]
  exact v
theorem sk_lt {V : Mem} {a k : Nat} (h : a ≤ 4 ∧ (a < 4 → a ≤ vM V ∧ vM V < 4)) (hm : vM V ≤ 4) (hk : k < vM V) : sk a k < cntM V a ∧ sk a k < 4 ∧ sk a k ≠ a ∧ us a (sk a k) = k := by
  unfold sk us cntM
  by_cases h1 : k < a
  · rw [if_pos h1]
    by_cases h2 : a < 4
    · rw [if_pos h2, if_pos (by omega)]; omega
    · rw [if_neg h2, if_pos (by omega)]; omega
  · rw [if_neg h1, if_pos (show a < 4 by omega), if_neg (by omega)]
    have := h.2 (by omega)
    omega
theorem us_lt {V : Mem} {a m : Nat} (h : a ≤ 4 ∧ (a < 4 → a ≤ vM V ∧ vM V < 4)) (hm : vM V ≤ 4) (hk : m < cntM V a) (hma : m ≠ a) : us a m < vM V ∧ sk a (us a m) = m ∧ us a (m + 1) = us a m + 1 := by
  unfold sk us
  unfold cntM at hk
  by_cases h1 : m ≤ a
  · rw [if_pos h1, if_pos (show m + 1 ≤ a by omega), if_pos (by omega)]
    refine ⟨?_, rfl, rfl⟩
    split at hk
    · have := h.2 (by assumption); omega
    · omega
  · rw [if_neg h1, if_neg (by omega), if_neg (by omega)]
    split at hk <;> omega
theorem us_eq {a : Nat} : us a (a + 1) = us a a := by
  unfold us
  rw [if_neg (by omega), if_pos (by omega)]
  omega
theorem us_end {V : Mem} {a : Nat} (h : a ≤ 4 ∧ (a < 4 → a ≤ vM V ∧ vM V < 4)) (hm : vM V ≤ 4) : us a (cntM V a) = vM V := by
  unfold us cntM
  split
  · rw [if_neg (by have := h.2 (by assumption); omega)]; omega
  · rw [if_pos (by omega)]
theorem us_0 {a : Nat} : us a 0 = 0 := by unfold us; rw [if_pos (Nat.zero_le _)]
theorem cnt_le {V : Mem} {a : Nat} (h : a ≤ 4 ∧ (a < 4 → a ≤ vM V ∧ vM V < 4)) (hm : vM V ≤ 4) : cntM V a ≤ 4 := by
  unfold cntM
  split
  · have := h.2 (by assumption); omega
  · exact hm
/-- who is missing -/
theorem abs_eq {V M : Mem} {a m : Nat} (v : MV V a M) (hm : m < 4) : nI m = M 85 18 ↔ m = a := by
  obtain ⟨h1, -, -, -, h5, -⟩ := v
  rw [h5]
  by_cases h : a < 4
  · rw [if_pos h, n_eq (by omega) (by omega)]
  · rw [if_neg h]
    exact ⟨fun z => absurd z (nI_m1 (by omega)), fun z => by omega⟩
theorem fM_within_clS2 (v : Int32) (M : Mem) : fM_within v 0 99 M = some (clS 2 v, M) := by
  unfold fM_within clS
  rw [if_pos rfl]
  simp only [i_le, i_lt]
  have eh : (99 : Int32).toInt = 99 := rfl
  have el : (0 : Int32).toInt = 0 := rfl
  rw [eh, el]
  by_cases h3 : v.toInt < 99
  · simp only [if_pos h3, if_pos (show v.toInt ≤ 99 by omega)]
    by_cases h1 : 0 < v.toInt
    · rw [if_pos h1, if_pos (by omega)]
    · rw [if_neg h1]
      by_cases h2 : 0 ≤ v.toInt
      · rw [if_pos h2, show v = 0 from i_eq.mpr (by rw [el]; omega)]
      · rw [if_neg h2]
  · simp only [if_neg h3]
    rw [if_pos (by omega), if_pos (show (0 : Int) < (99 : Int32).toInt by rw [eh]; decide)]
    by_cases h2 : v.toInt ≤ 99
    · rw [if_pos h2, show v = 99 from i_eq.mpr (by rw [eh]; omega)]
    · rw [if_neg h2]
theorem fM_within_clS {p : Nat} (hp : p ≠ 2) (v : Int32) (M : Mem) : fM_within v 1 9 M = some (clS p v, M) := by
  unfold fM_within clS
  rw [if_neg hp]
  simp only [i_le, i_lt]
  have eh : (9 : Int32).toInt = 9 := rfl
  have el : (1 : Int32).toInt = 1 := rfl
  rw [eh, el]
  by_cases h3 : v.toInt < 9
  · simp only [if_pos h3, if_pos (show v.toInt ≤ 9 by omega)]
    by_cases h1 : 1 < v.toInt
    · rw [if_pos h1, if_pos (by omega)]
    · rw [if_neg h1]
      by_cases h2 : 1 ≤ v.toInt
      · rw [if_pos h2, show v = 1 from i_eq.mpr (by rw [el]; omega)]
      · rw [if_neg h2]
  · simp only [if_neg h3]
    rw [if_pos (by omega), if_pos (show (1 : Int) < (9 : Int32).toInt by rw [eh]; decide)]
    by_cases h2 : v.toInt ≤ 9
    · rw [if_pos h2, show v = 9 from i_eq.mpr (by rw [eh]; omega)]
    · rw [if_neg h2]
theorem fM_says_eq {V : Mem} {a : Nat} {tl : Tell} {M D : Mem} (vo : VOK V) (v : MV V a M) (vm : VMo (M 85 4) tl (M 86) (M 87)) (dk : DOK V D) (dm : DM V a D M) {k p : Nat} (hk : k < vM V) (hp : p < 3) (t b : Int32) : ∃ M', fM_says (nI p) (nI (sk a k)) t b M = some (telS tl V D p k t b, M') ∧ KeepM M M' ∧ DM V a D M' ∧ (∀ x, x ≠ 85 → M' x = M x) := by
  have m4 := vo.2.2.1.2
  have S := sk_lt v.1 m4 hk
  have C4 := cnt_le v.1 m4
  have gk : ib (nI (sk a k)) 4 := ib_nI S.2.1 (by omega)
  have ek : ix (nI (sk a k)) = sk a k := ix_nI (by omega)
  obtain ⟨d50, d52, d51, d53, d54, d55⟩ := dm.1 k hk
  have g8 := (dk k hk).1
  have c93 := (v.2.2.2.2.2.2.2 k hk).1.2.1
  have fin : ∀ (acc : Int32), ∀ z, ∃ M', fM_says_b6 (nI p) (nI (sk a k)) t b (z + 1) acc (nI (cntM V a)) M = some (clS p (tl p t (D 50 k) (D 56 (ix (D 50 k))) (V 5 k) b acc), M') ∧ KeepR M (wr (wr (wr (wr (wr (wr M' 85 21 (M 85 21)) 85 22 (M 85 22)) 85 23 (M 85 23)) 85 24 (M 85 24)) 85 25 (M 85 25)) 85 26 (M 85 26)) := by
    intro acc z
    rw [fM_says_b6, v.2.2.2.1, if_pos (by rw [n_le (by omega) (by omega)]; omega), if_pos gk, if_pos gk, if_pos gk, ek]
    have w85 : ∀ (N : Mem) (j : Nat) (x : Int32) (q : Nat), q ≠ 85 → wr N 85 j x q = N q := fun N j x q hq => wr_ne hq
    simp only [w85 _ _ _ 98 (by decide), w85 _ _ _ 104 (by decide), w85 _ _ _ 93 (by decide), ← d50]
    rw [if_pos g8, ← dm.2.1 _ (ix_lt g8), c93]
    generalize hN : wr (wr (wr (wr (wr (wr M 85 21 t) 85 22 (D 50 k)) 85 23 (D 56 (ix (D 50 k)))) 85 24 (V 5 k)) 85 25 b) 85 26 acc = N
    have n21 : N 85 21 = t := by rw [← hN]; simp [wr]
    have n22 : N 85 22 = D 50 k := by rw [← hN]; simp [wr]
    have n23 : N 85 23 = D 56 (ix (D 50 k)) := by rw [← hN]; simp [wr]
    have n24 : N 85 24 = V 5 k := by rw [← hN]; simp [wr]
    have n25 : N 85 25 = b := by rw [← hN]; simp [wr]
    have n26 : N 85 26 = acc := by rw [← hN]; simp [wr]
    have nr : ∀ q, q ≠ 85 → N q = M q := fun q hq => by rw [← hN, wr_ne hq, wr_ne hq, wr_ne hq, wr_ne hq, wr_ne hq, wr_ne hq]
    have nj : ∀ j, (j < 21 ∨ 26 < j) → N 85 j = M 85 j := fun j hj => by rw [← hN, wr_at (by omega), wr_at (by omega), wr_at (by omega), wr_at (by omega), wr_at (by omega), wr_at (by omega)]
    obtain ⟨N', e', kr⟩ := vm N p (nr 86 (by decide)) (nr 87 (by decide)) hp
    rw [n21, n22, n23, n24, n25, n26] at e'
    rw [nj 4 (by omega), e']
    simp only [Option.bind_some]
    refine ⟨N', ?_, ?_, ?_⟩
    · by_cases hp2 : p = 2
      · subst hp2
        rw [if_pos (show nI 2 = 2 from rfl), fM_says_b143, if_pos (show nI 2 = 2 from rfl), fM_says_b155, fM_within_clS2]
        rfl
      · rw [if_neg (by rw [show (2 : Int32) = nI 2 from rfl, n_eq (by omega) (by omega)]; exact hp2), fM_says_b143, if_neg (by rw [show (2 : Int32) = nI 2 from rfl, n_eq (by omega) (by omega)]; exact hp2), fM_says_b155, fM_within_clS hp2]
        rfl
    · intro q hq
      rw [wr_ne hq, wr_ne hq, wr_ne hq, wr_ne hq, wr_ne hq, wr_ne hq, kr.1 q hq, nr q hq]
    · intro j hj
      unfold wr
      by_cases h26 : j = 26
      · simp [h26]
      by_cases h25 : j = 25
      · simp [h25]
      by_cases h24 : j = 24
      · simp [h24]
      by_cases h23 : j = 23
      · simp [h23]
      by_cases h22 : j = 22
      · simp [h22]
      by_cases h21 : j = 21
      · simp [h21]
      simp only [h21, h22, h23, h24, h25, h26, and_false, if_false]
      rw [kr.2 j hj, nj j (by omega)]
  have loop : ∀ (c m z : Nat) (acc : Int32), m + c = cntM V a → c < z → ∃ M', fM_says_b6 (nI p) (nI (sk a k)) t b z acc (nI m) M = some (clS p (tl p t (D 50 k) (D 56 (ix (D 50 k))) (V 5 k) b (othF D k (vM V - us a m) (us a m) acc)), M') ∧ KeepR M (wr (wr (wr (wr (wr (wr M' 85 21 (M 85 21)) 85 22 (M 85 22)) 85 23 (M 85 23)) 85 24 (M 85 24)) 85 25 (M 85 25)) 85 26 (M 85 26)) := by
    intro c
    induction c with
    | zero =>
      intro m z acc hm hz
      obtain ⟨z, rfl⟩ := Nat.exists_eq_succ_of_ne_zero (show z ≠ 0 by omega)
      have : m = cntM V a := by omega
      subst this
      rw [us_end v.1 m4, Nat.sub_self, othF]
      exact fin acc z
    | succ c ih =>
      intro m z acc hm hz
      obtain ⟨z, rfl⟩ := Nat.exists_eq_succ_of_ne_zero (show z ≠ 0 by omega)
      have gm : ib (nI m) 4 := ib_nI (by omega) (by omega)
      have em : ix (nI m) = m := ix_nI (by omega)
      rw [fM_says_b6, v.2.2.2.1, if_neg (by rw [n_le (by omega) (by omega)]; omega)]
      simp only [fM_says_b62, fM_says_b63, Int32.add_zero, nI_1, em, ek, if_pos gm, if_pos gk]
      by_cases h1 : m = sk a k
      · rw [if_pos (by rw [h1])]
        have ul := us_lt v.1 m4 (show m < cntM V a by omega) (by rw [h1]; exact S.2.2.1)
        obtain ⟨M', e1, e2⟩ := ih (m + 1) z acc (by omega) (by omega)
        refine ⟨M', ?_, e2⟩
        rw [e1, ul.2.2, show vM V - us a m = (vM V - (us a m + 1)) + 1 by omega, othF, if_neg (fun w => w.1 (by rw [h1]; exact S.2.2.2))]
      · rw [if_neg (by rw [n_eq (by omega) (by omega)]; exact h1)]
        by_cases h2 : m = a
        · rw [if_pos ((abs_eq v (by omega)).mpr h2)]
          obtain ⟨M', e1, e2⟩ := ih (m + 1) z acc (by omega) (by omega)
          refine ⟨M', ?_, e2⟩
          rw [e1, h2, us_eq]
        · rw [if_neg (fun w => h2 ((abs_eq v (by omega)).mp w))]
          have ul := us_lt v.1 m4 (show m < cntM V a by omega) h2
          obtain ⟨q50, q52, -⟩ := dm.1 (us a m) ul.1
          rw [ul.2.1] at q50 q52
          have hne : us a m ≠ k := fun w => h1 (by rw [← w, ul.2.1])
          rw [← q50, ← q52, ← d50]
          have ho : ∀ acc, othF D k (vM V - us a m) (us a m) acc = othF D k (vM V - us a (m + 1)) (us a (m + 1)) (if us a m ≠ k ∧ D 52 (us a m) = 0 ∧ D 50 (us a m) = D 50 k then acc + 1 else acc) := fun acc => by
            rw [ul.2.2, show vM V - us a m = (vM V - (us a m + 1)) + 1 by omega, othF]
          by_cases h3 : D 52 (us a m) = 0
          · rw [if_pos h3]
            by_cases h4 : D 50 (us a m) = D 50 k
            · rw [if_pos h4, ho, if_pos ⟨hne, h3, h4⟩]
              exact ih (m + 1) z _ (by omega) (by omega)
            · rw [if_neg h4, ho, if_neg (fun w => h4 w.2.2)]
              exact ih (m + 1) z _ (by omega) (by omega)
          · rw [if_neg h3, ho, if_neg (fun w => h3 w.2.1)]
            exact ih (m + 1) z _ (by omega) (by omega)
  obtain ⟨M', e1, e2⟩ := loop (cntM V a) 0 1000 0 (by omega) (by omega)
  rw [us_0, Nat.sub_zero] at e1
  have r : ∀ x, x ≠ 85 → M' x = M x := fun x hx => by
    have := e2.1 x hx
    rw [wr_ne hx, wr_ne hx, wr_ne hx, wr_ne hx, wr_ne hx, wr_ne hx] at this
    exact this
  have r85 : ∀ j, (j < 21 ∨ (36 ≤ j ∧ j ≠ 132)) → M' 85 j = M 85 j := fun j hj => by
    have := e2.2 j (by omega)
    rw [wr_at (by omega), wr_at (by omega), wr_at (by omega), wr_at (by omega), wr_at (by omega), wr_at (by omega)] at this
    exact this
  refine ⟨M', e1, ⟨fun x h _ => r x h, fun j h => r85 j (by omega)⟩, ?_, r⟩
  unfold DM
  rw [r 98 (by decide), r 99 (by decide), r 100 (by decide), r 101 (by decide), r 102 (by decide), r 103 (by decide), r 104 (by decide), r85 43 (by decide), r85 44 (by decide)]
  exact dm
end
section
/-! 21: a maid's turn in the model -/
theorem wr_comm {M : Mem} {k j q i : Nat} {v w : Int32} (h : k ≠ q) : wr (wr M k j v) q i w = wr (wr M q i w) k j v := by
  funext a b
  unfold wr
  by_cases h1 : a = q ∧ b = i
  · rw [if_pos h1, if_neg (by omega), if_pos h1]
  · rw [if_neg h1, if_neg h1]
theorem sk_inj {a i k : Nat} : sk a i = sk a k ↔ i = k := by
  unfold sk
  constructor
  · intro h
    split at h <;> split at h <;> omega
  · intro h; rw [h]
theorem DM.put {V D M : Mem} {a : Nat} (d : DM V a D M) {x y : Nat} (h : (x = 50 ∧ y = 98) ∨ (x = 53 ∧ y = 101) ∨ (x = 54 ∧ y = 102) ∨ (x = 55 ∧ y = 103)) (k : Nat) (v : Int32) : DM V a (wr D x k v) (wr M y (sk a k) v) := by
  obtain ⟨d1, d2, d3, d4⟩ := d
  refine ⟨fun j hj => ?_, fun r hr => ?_, ?_, ?_⟩
  · obtain ⟨z1, z2, z3, z4, z5, z6⟩ := d1 j hj
    unfold wr
    simp only [sk_inj]
    rcases h with ⟨rfl, rfl⟩ | ⟨rfl, rfl⟩ | ⟨rfl, rfl⟩ | ⟨rfl, rfl⟩ <;> by_cases hjk : j = k <;> simp [hjk] <;> simp_all
  · rw [wr_ne (show 56 ≠ x by omega), wr_ne (show 104 ≠ y by omega)]; exact d2 r hr
  · rw [wr_ne (show 45 ≠ x by omega), wr_ne (show 85 ≠ y by omega)]; exact d3
  · rw [wr_ne (show 45 ≠ x by omega), wr_ne (show 85 ≠ y by omega)]; exact d4
theorem DM.put52 {V D M : Mem} {a : Nat} (d : DM V a D M) {k : Nat} {v : Int32} (h : 0 < v.toInt → D 51 k = M 100 (sk a k)) : DM V a (wr D 52 k v) (wr M 99 (sk a k) v) := by
  obtain ⟨d1, d2, d3, d4⟩ := d
  refine ⟨fun j hj => ?_, fun r hr => ?_, ?_, ?_⟩
  · obtain ⟨z1, z2, z3, z4, z5, z6⟩ := d1 j hj
    rw [wr_ne (show 50 ≠ 52 by decide), wr_ne (show 51 ≠ 52 by decide), wr_ne (show 53 ≠ 52 by decide), wr_ne (show 54 ≠ 52 by decide), wr_ne (show 55 ≠ 52 by decide), wr_ne (show 98 ≠ 99 by decide), wr_ne (show 100 ≠ 99 by decide), wr_ne (show 101 ≠ 99 by decide), wr_ne (show 102 ≠ 99 by decide), wr_ne (show 103 ≠ 99 by decide)]
    by_cases hjk : j = k
    · subst hjk
      rw [wr_same, wr_same]
      exact ⟨z1, rfl, h, z4, z5, z6⟩
    · rw [wr_at hjk, wr_at (fun w => hjk (sk_inj.mp w))]
      exact ⟨z1, z2, z3, z4, z5, z6⟩
  · rw [wr_ne (show 56 ≠ 52 by decide), wr_ne (show 104 ≠ 99 by decide)]; exact d2 r hr
  · rw [wr_ne (show 45 ≠ 52 by decide), wr_ne (show 85 ≠ 99 by decide)]; exact d3
  · rw [wr_ne (show 45 ≠ 52 by decide), wr_ne (show 85 ≠ 99 by decide)]; exact d4
theorem DM.put51 {V D M : Mem} {a : Nat} (d : DM V a D M) (k : Nat) (v : Int32) : DM V a (wr D 51 k v) (wr M 100 (sk a k) v) := by
  obtain ⟨d1, d2, d3, d4⟩ := d
  refine ⟨fun j hj => ?_, fun r hr => ?_, ?_, ?_⟩
  · obtain ⟨z1, z2, z3, z4, z5, z6⟩ := d1 j hj
    rw [wr_ne (show 50 ≠ 51 by decide), wr_ne (show 52 ≠ 51 by decide), wr_ne (show 53 ≠ 51 by decide), wr_ne (show 54 ≠ 51 by decide), wr_ne (show 55 ≠ 51 by decide), wr_ne (show 98 ≠ 100 by decide), wr_ne (show 99 ≠ 100 by decide), wr_ne (show 101 ≠ 100 by decide), wr_ne (show 102 ≠ 100 by decide), wr_ne (show 103 ≠ 100 by decide)]
    by_cases hjk : j = k
    · subst hjk
      rw [wr_same, wr_same]
      exact ⟨z1, z2, fun _ => rfl, z4, z5, z6⟩
    · rw [wr_at hjk, wr_at (fun w => hjk (sk_inj.mp w))]
      exact ⟨z1, z2, z3, z4, z5, z6⟩
  · rw [wr_ne (show 56 ≠ 51 by decide), wr_ne (show 104 ≠ 100 by decide)]; exact d2 r hr
  · rw [wr_ne (show 45 ≠ 51 by decide), wr_ne (show 85 ≠ 100 by decide)]; exact d3
  · rw [wr_ne (show 45 ≠ 51 by decide), wr_ne (show 85 ≠ 100 by decide)]; exact d4
theorem DM.put56 {V D M : Mem} {a : Nat} (d : DM V a D M) (q : Nat) (v : Int32) : DM V a (wr D 56 q v) (wr M 104 q v) := by
  obtain ⟨d1, d2, d3, d4⟩ := d
  refine ⟨fun j hj => ?_, fun r hr => ?_, ?_, ?_⟩
  · rw [wr_ne (show 50 ≠ 56 by decide), wr_ne (show 51 ≠ 56 by decide), wr_ne (show 52 ≠ 56 by decide), wr_ne (show 53 ≠ 56 by decide), wr_ne (show 54 ≠ 56 by decide), wr_ne (show 55 ≠ 56 by decide), wr_ne (show 98 ≠ 104 by decide), wr_ne (show 99 ≠ 104 by decide), wr_ne (show 100 ≠ 104 by decide), wr_ne (show 101 ≠ 104 by decide), wr_ne (show 102 ≠ 104 by decide), wr_ne (show 103 ≠ 104 by decide)]
    exact d1 j hj
  · unfold wr
    rw [d2 r hr]
    simp
  · rw [wr_ne (show 45 ≠ 56 by decide), wr_ne (show 85 ≠ 104 by decide)]; exact d3
  · rw [wr_ne (show 45 ≠ 56 by decide), wr_ne (show 85 ≠ 104 by decide)]; exact d4
theorem DM.put45 {V D M : Mem} {a : Nat} (d : DM V a D M) {i j : Nat} (h : (i = 13 ∧ j = 43) ∨ (i = 14 ∧ j = 44)) (v : Int32) : DM V a (wr D 45 i v) (wr M 85 j v) := by
  obtain ⟨d1, d2, d3, d4⟩ := d
  refine ⟨fun j hj => ?_, fun r hr => ?_, ?_, ?_⟩
  · rw [wr_ne (show 50 ≠ 45 by decide), wr_ne (show 51 ≠ 45 by decide), wr_ne (show 52 ≠ 45 by decide), wr_ne (show 53 ≠ 45 by decide), wr_ne (show 54 ≠ 45 by decide), wr_ne (show 55 ≠ 45 by decide), wr_ne (show 98 ≠ 85 by decide), wr_ne (show 99 ≠ 85 by decide), wr_ne (show 100 ≠ 85 by decide), wr_ne (show 101 ≠ 85 by decide), wr_ne (show 102 ≠ 85 by decide), wr_ne (show 103 ≠ 85 by decide)]
    exact d1 j hj
  · rw [wr_ne (show 56 ≠ 45 by decide), wr_ne (show 104 ≠ 85 by decide)]; exact d2 r hr
  · unfold wr
    rcases h with ⟨rfl, rfl⟩ | ⟨rfl, rfl⟩ <;> simp [d3]
  · unfold wr
    rcases h with ⟨rfl, rfl⟩ | ⟨rfl, rfl⟩ <;> simp [d4]
theorem fM_takesOf_eq {s : Nat} {v : Int32} {M : Mem} (hs : s < 4) (hv : 1 ≤ v.toInt ∧ v.toInt ≤ 9) : fM_takesOf (nI s) v M = some (takesS (M 92 s) (M 93 s) v, M) := by
  have gs : ib (nI s) 4 := ib_nI hs (by omega)
  have es : ix (nI s) = s := ix_nI (by omega)
  have e1 : (1 : Int32).toInt = 1 := rfl
  have e2 : (2 : Int32).toInt = 2 := rfl
  have ea : (v + 1).toInt = v.toInt + 1 := by rw [t_add (by omega) (by omega), e1]
  have em : (2 * (v + 1)).toInt = 2 * (v.toInt + 1) := by rw [t_mul (by rw [e2]; omega) (by rw [e2]; omega), ea, e2]
  have em2 : (2 * v).toInt = 2 * v.toInt := by rw [t_mul (by rw [e2]; omega) (by rw [e2]; omega), e2]
  have big : ∀ x : Int32, 1 ≤ x.toInt → fM_takesOf_b66 x M = some (x, M) := fun x hx => by
    unfold fM_takesOf_b66
    rw [if_pos (by rw [i_le, e1]; exact hx)]
  have sm : ∀ x : Int32, fM_takesOf_b66 x M = some (if 1 < x then x else 1, M) := fun x => by
    unfold fM_takesOf_b66
    simp only [i_le, i_lt, e1]
    by_cases h : 1 < x.toInt
    · rw [if_pos h, if_pos (by omega)]
    · rw [if_neg h]
      by_cases h2 : 1 ≤ x.toInt
      · rw [if_pos h2, show x = 1 from i_eq.mpr (by rw [e1]; omega)]
      · rw [if_neg h2]
  unfold fM_takesOf takesS
  simp only [if_pos gs, es, fM_takesOf_b17, sm (v - M 93 s / 3), big (v + 1) (by omega), big (2 * (v + 1)) (by omega), big (2 * v) (by omega), big v hv.1]
  by_cases h1 : M 92 s = 1
  · rw [if_pos h1, if_pos (Or.inl h1)]
  · by_cases h3 : M 92 s = 3
    · rw [if_neg h1, if_pos h3, if_pos (Or.inr h3)]
    · rw [if_neg h1, if_neg h3, if_neg (show ¬ (M 92 s = 1 ∨ M 92 s = 3) from fun z => z.elim h1 h3)]
      by_cases h2 : M 92 s = 2
      · rw [if_pos h2, if_pos h2]
      · rw [if_neg h2, if_neg h2]
        by_cases h4 : M 92 s = 4
        · rw [if_pos h4, if_pos h4]
        · rw [if_neg h4, if_neg h4]
          by_cases h5 : M 92 s = 5
          · rw [if_pos h5, if_pos h5]
          · rw [if_neg h5, if_neg h5]
theorem fM_worksOf_eq {s : Nat} {v : Int32} {M : Mem} (hs : s < 4) (hv : 1 ≤ v.toInt ∧ v.toInt ≤ 9) (hn : 0 ≤ (M 93 s).toInt ∧ (M 93 s).toInt ≤ 9) : fM_worksOf (nI s) v M = some (worksS (M 92 s) (M 93 s) v, M) := by
  have gs : ib (nI s) 4 := ib_nI hs (by omega)
  have es : ix (nI s) = s := ix_nI (by omega)
  have e1 : (1 : Int32).toInt = 1 := rfl
  have ea : (v + 1).toInt = v.toInt + 1 := by rw [t_add (by omega) (by omega), e1]
  have eb : (v + M 93 s).toInt = v.toInt + (M 93 s).toInt := t_add (by omega) (by omega)
  have big : ∀ x : Int32, 1 ≤ x.toInt → fM_worksOf_b51 x M = some (x, M) := fun x hx => by
    unfold fM_worksOf_b51
    rw [if_pos (by rw [i_le, e1]; exact hx)]
  have sm : ∀ x : Int32, fM_worksOf_b51 x M = some (if 1 < x then x else 1, M) := fun x => by
    unfold fM_worksOf_b51
    simp only [i_le, i_lt, e1]
    by_cases h : 1 < x.toInt
    · rw [if_pos h, if_pos (by omega)]
    · rw [if_neg h]
      by_cases h2 : 1 ≤ x.toInt
      · rw [if_pos h2, show x = 1 from i_eq.mpr (by rw [e1]; omega)]
      · rw [if_neg h2]
  unfold fM_worksOf worksS
  simp only [if_pos gs, es, fM_worksOf_b17, sm (v / 2), big (v + 1) (by omega), big (v + M 93 s) (by omega), big v hv.1]
  by_cases h1 : M 92 s = 1
  · rw [if_pos h1, if_pos (Or.inl h1)]
  · by_cases h3 : M 92 s = 3
    · rw [if_neg h1, if_pos h3, if_pos (Or.inr h3)]
    · rw [if_neg h1, if_neg h3, if_neg (show ¬ (M 92 s = 1 ∨ M 92 s = 3) from fun z => z.elim h1 h3)]
      by_cases h4 : M 92 s = 4
      · rw [if_pos h4, if_pos h4]
      · rw [if_neg h4, if_neg h4]
        by_cases h5 : M 92 s = 5
        · rw [if_pos h5, if_pos h5]
        · rw [if_neg h5, if_neg h5]
theorem fM_aimOf_eq {V : Mem} {a : Nat} {M D : Mem} (vo : VOK V) (v : MV V a M) (dk : DOK V D) (dm : DM V a D M) {k : Nat} (hk : k < vM V) : fM_aimOf (nI (sk a k)) M = some (aimS V D k, M) := by
  have m4 := vo.2.2.1.2
  have S := sk_lt v.1 m4 hk
  have gk : ib (nI (sk a k)) 4 := ib_nI S.2.1 (by omega)
  have ek : ix (nI (sk a k)) = sk a k := ix_nI (by omega)
  obtain ⟨d50, d52, d51, d53, d54, d55⟩ := dm.1 k hk
  have C := v.2.2.2.2.2.2.2 k hk
  have l5 := (vo.2.2.2 k hk).2.2.1
  have p0 := (dk k hk).2.2.2
  unfold fM_aimOf aimS
  simp only [if_pos gk, ek, ← d53, C.1.2.2.2, i_le]
  by_cases h : (D 53 k).toInt < (V 7 k).toInt
  · rw [if_neg (by omega), if_pos h]
    have e53 := nI_ix p0.1
    have h5 : ix (D 53 k) < vL V k := by unfold vL ix; omega
    have e : (5 : Int32) * nI (sk a k) + D 53 k = nI (5 * sk a k + ix (D 53 k)) := by
      rw [show (5 : Int32) = nI 5 from rfl, pk_mul, ← nI_add, e53]
    rw [e, if_pos (ib_nI (by omega) (by omega)), ix_nI (by omega), C.2 _ h5]
  · rw [if_pos (by omega), if_neg h]
end
section
/-! 22: a turn and a minute of the model -/
theorem DOK_51 {V D : Mem} (d : DOK V D) {k : Nat} {x : Int32} (hx : 0 ≤ x.toInt ∧ x.toInt < 8) : DOK V (wr D 51 k x) := by
  intro j hj
  rw [wr_ne (show 50 ≠ 51 by decide), wr_ne (show 52 ≠ 51 by decide), wr_ne (show 53 ≠ 51 by decide)]
  have z := d j hj
  by_cases hjk : j = k
  · subst hjk
    rw [wr_same]
    exact ⟨z.1, z.2.1, fun _ => hx, z.2.2.2⟩
  · rw [wr_at hjk]; exact z
theorem telS_wr {V D : Mem} {tl : Tell} {x : Nat} (h : x ≠ 50 ∧ x ≠ 52 ∧ x ≠ 56) (i : Nat) (v : Int32) (p k : Nat) (t b : Int32) : telS tl V (wr D x i v) p k t b = telS tl V D p k t b := by
  unfold telS othS
  rw [wr_ne (show 50 ≠ x by omega), wr_ne (show 56 ≠ x by omega), othF_congr (D := D) (wr_ne (by omega)) (wr_ne (by omega))]
/-- what the model's day needs of M -/
def MO (V : Mem) (a : Nat) (tl : Tell) (M : Mem) : Prop := VOK V ∧ MV V a M ∧ VMo (M 85 4) tl (M 86) (M 87) ∧ TB97 (vS V) M
theorem MO.keep {V M N : Mem} {a : Nat} {tl : Tell} (v : MO V a tl M) (k : KeepM M N) : MO V a tl N := ⟨v.1, v.2.1.keep k, by rw [k.2 4 (by decide), k.1 86 (by decide) (by decide), k.1 87 (by decide) (by decide)]; exact v.2.2.1, v.2.2.2.keep k⟩
theorem telS_bd {V D : Mem} {tl : Tell} {p k : Nat} {t b : Int32} (h : p ≠ 2) : 1 ≤ (telS tl V D p k t b).toInt ∧ (telS tl V D p k t b).toInt ≤ 9 := (clS_bd p _).2 h
theorem fM_acts_b35_eq {V : Mem} {a : Nat} {tl : Tell} {M D : Mem} (mo : MO V a tl M) (dk : DOK V D) (dm : DM V a D M) {k : Nat} (hk : k < vM V) (t mm : Int32) : ∃ M', fM_acts_b35 (nI (sk a k)) t mm (aimS V D k) (nextS V D k) M = some M' ∧ KeepM M M' ∧ DM V a (turnS V tl k t mm D) M' := by
  have vo := mo.1
  have v := mo.2.1
  have m4 := vo.2.2.1.2
  have S := sk_lt v.1 m4 hk
  have gk : ib (nI (sk a k)) 4 := ib_nI S.2.1 (by omega)
  have ek : ix (nI (sk a k)) = sk a k := ix_nI (by omega)
  obtain ⟨d50, d52, d51, d53, d54, d55⟩ := dm.1 k hk
  have C := v.2.2.2.2.2.2.2 k hk
  have num := (vo.2.2.2 k hk).1
  have e0 : (0 : Int32).toInt = 0 := rfl
  have e1 : (1 : Int32).toInt = 1 := rfl
  have dK := dk k hk
  have hL := tI_lt (V 7 k)
  unfold fM_acts_b35 turnS
  simp only [if_pos gk, ek, ← d50, ← d52, ← d54, C.1.1, C.1.2.1, fM_acts_b85, fM_acts_b269, fM_acts_b238, fM_acts_b180, fM_acts_b198, wr_same]
  by_cases hw : 0 < (D 52 k).toInt
  · rw [if_neg (by rw [i_le, e0]; omega), if_pos hw]
    rw [wr_ne (show 98 ≠ 99 by decide), wr_ne (show 100 ≠ 99 by decide)]
    by_cases hz : D 52 k - 1 = 0
    · rw [if_pos hz, if_pos hz]
      refine ⟨_, rfl, (KeepM.put (Or.inl (by decide))).trans (KeepM.put (Or.inl (by decide))), ?_⟩
      rw [← d51 hw]
      exact (dm.put52 (fun _ => d51 hw)).put (Or.inl ⟨rfl, rfl⟩) k _
    · rw [if_neg hz, if_neg hz]
      refine ⟨_, rfl, (KeepM.put (Or.inl (by decide))).trans (KeepM.put (Or.inl (by decide))), ?_⟩
      have h1 : wr (wr M 99 (sk a k) (D 52 k - 1)) 98 (sk a k) (M 98 (sk a k)) = wr M 99 (sk a k) (D 52 k - 1) := by
        have := wr_self (wr M 99 (sk a k) (D 52 k - 1)) 98 (sk a k)
        rw [wr_ne (show 98 ≠ 99 by decide)] at this
        exact this
      rw [h1]
      exact dm.put52 (fun _ => d51 hw)
  · rw [if_pos (by rw [i_le, e0]; omega), if_neg hw]
    by_cases hm : D 50 k = mm
    · rw [if_pos hm.symm, if_pos hm]
      have kp : KeepM M (wr M 102 (sk a k) (D 54 k + 1)) := KeepM.put (Or.inl (by decide))
      have dm2 : DM V a (wr D 54 k (D 54 k + 1)) (wr M 102 (sk a k) (D 54 k + 1)) := dm.put (Or.inr (Or.inr (Or.inl ⟨rfl, rfl⟩))) k _
      have mo2 := mo.keep kp
      obtain ⟨M', r1, r2, r3, r4⟩ := fM_says_eq vo mo2.2.1 mo2.2.2.1 (DOK_wr_other dk (by decide)) dm2 hk (show 2 < 3 by decide) t 0
      rw [show (2 : Int32) = nI 2 from rfl, r1]
      simp only [Option.bind_some]
      refine ⟨_, rfl, (kp.trans r2).trans (KeepM.put (Or.inr ⟨rfl, by decide⟩)), ?_⟩
      rw [telS_wr (by decide), wr_ne (show 85 ≠ 102 by decide), ← dm.2.2.1]
      exact r3.put45 (Or.inl ⟨rfl, rfl⟩) _
    · rw [if_neg (fun w => hm w.symm), if_neg hm]
      by_cases ha : D 50 k = aimS V D k
      · rw [if_pos ha.symm, if_pos ha]
        rw [← ha]
        rw [if_pos dK.1]
        obtain ⟨M', r1, r2, r3, r4⟩ := fM_says_eq (tl := tl) vo v mo.2.2.1 dk dm hk (show 1 < 3 by decide) t 0
        rw [show fM_says 1 (nI (sk a k)) t 0 M = fM_says (nI 1) (nI (sk a k)) t 0 M from rfl, r1]
        simp only [Option.bind_some]
        have tb := telS_bd (tl := tl) (V := V) (D := D) (k := k) (t := t) (b := 0) (show 1 ≠ 2 by decide)
        have c92 : M' 92 = M 92 := r4 92 (by decide)
        have c93 : M' 93 = M 93 := r4 93 (by decide)
        rw [fM_worksOf_eq S.2.1 tb (by rw [c93, C.1.2.1]; exact num), c92, c93, C.1.1, C.1.2.1]
        simp only [Option.bind_some]
        rw [← dm.2.1 _ (ix_lt dK.1)]
        unfold lessS
        generalize D 56 (ix (D 50 k)) - worksS (V 4 k) (V 5 k) (telS tl V D 1 k t 0) = y
        obtain ⟨q50, q52, q51, q53, q54, q55⟩ := r3.1 k hk
        have hb1 := aimS_bd' vo dk hk
        simp only [i_le, i_lt, e0, if_pos dK.1, if_pos gk, ek, wr_ne (show 101 ≠ 104 by decide), ← q53]
        have kk : ∀ (x : Int32) (w : Int32), KeepM M (wr (wr M' 104 (ix (D 50 k)) x) 101 (sk a k) w) := fun x w => (r2.trans (KeepM.put (Or.inl (by decide)))).trans (KeepM.put (Or.inl (by decide)))
        by_cases h1 : 0 < y.toInt
        · rw [if_pos (show 0 ≤ y.toInt by omega)]
          simp only [if_pos h1]
          rw [if_neg (by rw [i_eq, e0]; omega)]
          refine ⟨_, rfl, kk _ _, ?_⟩
          rw [Int32.add_zero, q53]
          have := wr_self (wr M' 104 (ix (D 50 k)) y) 101 (sk a k)
          rw [wr_ne (show 101 ≠ 104 by decide)] at this
          rw [this]
          exact r3.put56 _ _
        · simp only [if_neg h1]
          rw [if_pos True.intro]
          have e : (if 0 ≤ y.toInt then some (wr (wr M' 104 (ix (D 50 k)) y) 101 (sk a k) (D 53 k + 1)) else some (wr (wr M' 104 (ix (D 50 k)) 0) 101 (sk a k) (D 53 k + 1))) = some (wr (wr M' 104 (ix (D 50 k)) 0) 101 (sk a k) (D 53 k + 1)) := by
            by_cases h2 : 0 ≤ y.toInt
            · rw [if_pos h2, show y = 0 from i_eq.mpr (by rw [e0]; omega)]
            · rw [if_neg h2]
          rw [e]
          exact ⟨_, rfl, kk _ _, (r3.put56 _ _).put (Or.inr (Or.inl ⟨rfl, rfl⟩)) k _⟩
      · rw [if_neg (fun w => ha w.symm), if_neg ha]
        have wait : ∃ M', some (wr M 103 (sk a k) (M 103 (sk a k) + 1)) = some M' ∧ KeepM M M' ∧ DM V a (wr D 55 k (D 55 k + 1)) M' := by
          refine ⟨_, rfl, KeepM.put (Or.inl (by decide)), ?_⟩
          rw [← d55]
          exact dm.put (Or.inr (Or.inr (Or.inr ⟨rfl, rfl⟩))) k _
        have go : ¬ nextS V D k = -1 → ∃ M', ((fM_says 0 (nI (sk a k)) t (nextS V D k) (wr M 100 (sk a k) (nextS V D k))).bind fun w6 => (fM_takesOf (nI (sk a k)) w6.1 w6.2).bind fun w7 => some (wr w7.2 99 (sk a k) w7.1)) = some M' ∧ KeepM M M' ∧ DM V a (wr (wr D 52 k (takesS (V 4 k) (V 5 k) (telS tl V D 0 k t (nextS V D k)))) 51 k (nextS V D k)) M' := by
          intro hnm
          have hnb := (nextS_bd vo dk hk).resolve_left hnm
          have kp : KeepM M (wr M 100 (sk a k) (nextS V D k)) := KeepM.put (Or.inl (by decide))
          have mo2 := mo.keep kp
          obtain ⟨M', r1, r2, r3, r4⟩ := fM_says_eq (tl := tl) vo mo2.2.1 mo2.2.2.1 (DOK_51 dk hnb) (dm.put51 k (nextS V D k)) hk (show 0 < 3 by decide) t (nextS V D k)
          rw [telS_wr (by decide)] at r1
          have tb := telS_bd (tl := tl) (V := V) (D := D) (k := k) (t := t) (b := nextS V D k) (show 0 ≠ 2 by decide)
          rw [show fM_says 0 (nI (sk a k)) t (nextS V D k) = fM_says (nI 0) (nI (sk a k)) t (nextS V D k) from rfl, r1]
          simp only [Option.bind_some]
          rw [fM_takesOf_eq S.2.1 tb, r4 92 (by decide), r4 93 (by decide), wr_ne (show 92 ≠ 100 by decide), wr_ne (show 93 ≠ 100 by decide), C.1.1, C.1.2.1]
          simp only [Option.bind_some]
          refine ⟨_, rfl, (kp.trans r2).trans (KeepM.put (Or.inl (by decide))), ?_⟩
          rw [wr_comm (show 52 ≠ 51 by decide)]
          exact r3.put52 (fun _ => (r4 100 (by decide) ▸ (by rw [wr_same, wr_same]) : wr D 51 k (nextS V D k) 51 k = M' 100 (sk a k)))
        by_cases hn1 : nextS V D k = -1
        · rw [if_pos hn1, if_pos (Or.inl hn1)]
          exact wait
        · rw [if_neg hn1]
          by_cases hn2 : nextS V D k = mm
          · rw [if_pos hn2.symm]
            unfold dareB
            by_cases h3 : V 4 k = 3
            · rw [if_pos h3, if_neg (num2 num)]
              by_cases h4 : t - t / (V 5 k + 2) * (V 5 k + 2) = 0
              · rw [if_pos h4, if_neg (by simp [h3, h4, hn1])]
                exact go hn1
              · rw [if_neg h4, if_pos (Or.inr ⟨hn2, by simp [h4]⟩)]
                exact wait
            · rw [if_neg h3, if_pos (Or.inr ⟨hn2, by simp [h3]⟩)]
              exact wait
          · rw [if_neg (fun w => hn2 w.symm), if_neg (by rintro (w | w); exact hn1 w; exact hn2 w.1)]
            exact go hn1
theorem mst_V {V M : Mem} {a : Nat} (vo : VOK V) (v : MV V a M) {t : Int32} (ht : 0 ≤ t.toInt) : fM_masterIn t M = some (mst (vN V) (V 1) (V 2) t, M) := by
  rw [fM_masterIn_eq t ht v.2.2.1 ⟨vo.2.1.2.1, fun i hi => by rw [(v.2.2.2.2.2.1 i hi).2]; exact vo.2.1.2.2 i hi⟩]
  rw [mst_congr t (v.2.2.2.2.2.1)]
theorem fM_acts_eq {V : Mem} {a : Nat} {tl : Tell} {M D : Mem} (mo : MO V a tl M) (dk : DOK V D) (dm : DM V a D M) {k : Nat} (hk : k < vM V) {t : Int32} (ht : 0 ≤ t.toInt) : ∃ M', fM_acts (nI (sk a k)) t M = some M' ∧ KeepM M M' ∧ DM V a (turnS V tl k t (mst (vN V) (V 1) (V 2) t) D) M' := by
  have vo := mo.1
  have v := mo.2.1
  have m4 := vo.2.2.1.2
  have S := sk_lt v.1 m4 hk
  have gk : ib (nI (sk a k)) 4 := ib_nI S.2.1 (by omega)
  have ek : ix (nI (sk a k)) = sk a k := ix_nI (by omega)
  have d50 := (dm.1 k hk).1
  unfold fM_acts
  rw [mst_V vo v ht]
  simp only [Option.bind_some, fM_aimOf_eq vo v dk dm hk, if_pos gk, ek, ← d50]
  have hb := aimS_bd' vo dk hk
  have main := fM_acts_b35_eq mo dk dm hk t (mst (vN V) (V 1) (V 2) t)
  by_cases h : aimS V D k = -1
  · rw [if_pos h]
    have : nextS V D k = -1 := by unfold nextS; rw [if_pos h]
    rw [this, h] at main
    rw [h]
    exact main
  · rw [if_neg h]
    have hb2 := hb.resolve_left h
    have e1 := of_ib (dk k hk).1
    have e2 := of_ib (x := aimS V D k) (N := 8) ⟨hb2.1, hb2.2.1⟩
    have : fM_nextTo (D 50 k) (aimS V D k) M = some (nextS V D k, M) := by
      have := fM_nextTo_eq (s := vS V) (M := M) vo.1.2 mo.2.2.2 e1.2 e2.2
      rw [← e1.1, ← e2.1] at this
      rw [this]
      unfold nextS
      rw [if_neg h]
    rw [this]
    exact main
end
section
/-! 23: a minute, a morning of the model -/
theorem fM_isReady_eq {V : Mem} {a : Nat} {M D : Mem} (vo : VOK V) (v : MV V a M) (dm : DM V a D M) : fM_isReady M = some (bz (doneS V D = true), M) := by
  have m4 := vo.2.2.1.2
  have C4 := cnt_le v.1 m4
  have e0 : (0 : Int32).toInt = 0 := rfl
  have inner : ∀ (m : Nat), m < cntM V a → m ≠ a → ∀ (k2 : Int32 → Mem → Option (Int32 × Mem)) (c i z : Nat), i + c = vL V (us a m) → c < z → (∀ j, j < i → (D 56 (ix (V (8 + us a m) j))).toInt ≤ 0) → ((∀ j, j < vL V (us a m) → (D 56 (ix (V (8 + us a m) j))).toInt ≤ 0) ∧ fM_isReady_b12 k2 (nI m) z (nI i) M = k2 (nI (m + 1)) M) ∨ (doneS V D = false ∧ fM_isReady_b12 k2 (nI m) z (nI i) M = some (0, M)) := by
    intro m hm hma k2
    have ul := us_lt v.1 m4 hm hma
    have C := v.2.2.2.2.2.2.2 _ ul.1
    rw [ul.2.1] at C
    have VK := vo.2.2.2 _ ul.1
    have l5 := VK.2.2.1.2
    have gm : ib (nI m) 4 := ib_nI (by omega) (by omega)
    have em : ix (nI m) = m := ix_nI (by omega)
    intro c
    induction c with
    | zero =>
      intro i z hi hz hq
      obtain ⟨z, rfl⟩ := Nat.exists_eq_succ_of_ne_zero (show z ≠ 0 by omega)
      left
      refine ⟨fun j hj => hq j (by omega), ?_⟩
      rw [fM_isReady_b12, if_pos gm, em, C.1.2.2.2, VK.2.2.1.1, if_pos (by rw [n_le (by omega) (by omega)]; omega), fM_isReady_b56, nI_1]
    | succ c ih =>
      intro i z hi hz hq
      obtain ⟨z, rfl⟩ := Nat.exists_eq_succ_of_ne_zero (show z ≠ 0 by omega)
      have e5 : (5 : Int32) * nI m + nI i = nI (5 * m + i) := by rw [show (5 : Int32) = nI 5 from rfl, pk_mul, ← nI_add]
      have g8 := VK.2.2.2 i (by omega)
      rw [fM_isReady_b12, if_pos gm, em, C.1.2.2.2, VK.2.2.1.1, if_neg (by rw [n_le (by omega) (by omega)]; omega), if_neg (fun w => hma ((abs_eq v (by omega)).mp w)), e5, if_pos (ib_nI (by omega) (by omega)), ix_nI (by omega), C.2 i (by omega), if_pos g8, ← dm.2.1 _ (ix_lt g8)]
      by_cases h : D 56 (ix (V (8 + us a m) i)) ≤ 0
      · rw [if_pos h, nI_1]
        rw [i_le, e0] at h
        exact ih (i + 1) z (by omega) (by omega) (fun j hj => by
          by_cases hji : j = i
          · subst hji; exact h
          · exact hq j (by omega))
      · rw [if_neg h]
        right
        refine ⟨Bool.eq_false_iff.mpr (fun w => h ?_), rfl⟩
        rw [i_le, e0]
        exact doneS_iff.mp w _ ul.1 i (by omega)
  have outer : ∀ (c m z : Nat), m + c = cntM V a → c < z → (∀ k, k < us a m → ∀ i, i < vL V k → (D 56 (ix (V (8 + k) i))).toInt ≤ 0) → fM_isReady_b2 z (nI m) M = some (bz (doneS V D = true), M) := by
    intro c
    induction c with
    | zero =>
      intro m z hm hz hq
      obtain ⟨z, rfl⟩ := Nat.exists_eq_succ_of_ne_zero (show z ≠ 0 by omega)
      have hmm : m = cntM V a := by omega
      rw [hmm, us_end v.1 m4] at hq
      rw [fM_isReady_b2, v.2.2.2.1, if_pos (by rw [n_le (by omega) (by omega)]; omega), bz, if_pos (doneS_iff.mpr hq)]
    | succ c ih =>
      intro m z hm hz hq
      obtain ⟨z, rfl⟩ := Nat.exists_eq_succ_of_ne_zero (show z ≠ 0 by omega)
      rw [fM_isReady_b2, v.2.2.2.1, if_neg (by rw [n_le (by omega) (by omega)]; omega)]
      by_cases hma : m = a
      · have e : fM_isReady_b12 (fM_isReady_b2 z) (nI m) 1000 0 M = fM_isReady_b2 z (nI (m + 1)) M := by
          rw [fM_isReady_b12, if_pos (ib_nI (by omega) (by omega)), if_pos ((abs_eq v (by omega)).mpr hma), fM_isReady_b56, nI_1]
          by_cases h : M 96 (ix (nI m)) ≤ 0
          · rw [if_pos h]
          · rw [if_neg h]
        rw [e]
        exact ih (m + 1) z (by omega) (by omega) (by rw [hma, us_eq]; rw [hma] at hq; exact hq)
      · have ul := us_lt v.1 m4 (show m < cntM V a by omega) hma
        have l5 := (vo.2.2.2 _ ul.1).2.2.1.2
        rw [show (0 : Int32) = nI 0 from rfl]
        rcases inner m (by omega) hma (fM_isReady_b2 z) (vL V (us a m)) 0 1000 (by omega) (by omega) (fun j hj => absurd hj (by omega)) with ⟨x1, x2⟩ | ⟨x1, x2⟩
        · rw [x2]
          refine ih (m + 1) z (by omega) (by omega) (fun k hk => ?_)
          rw [ul.2.2] at hk
          by_cases hku : k = us a m
          · subst hku; exact x1
          · exact hq k (by omega)
        · rw [x2, bz, if_neg (by rw [x1]; decide)]
  unfold fM_isReady
  have := outer (cntM V a) 0 1000 (by omega) (by omega) (by rw [us_0]; exact fun k hk => absurd hk (by omega))
  exact this
theorem fM_lives_eq {V : Mem} {a : Nat} {tl : Tell} {M D : Mem} (mo : MO V a tl M) (dk : DOK V D) (dm : DM V a D M) {t : Int32} (ht : 0 ≤ t.toInt) : ∃ M', fM_lives t M = some M' ∧ KeepM M M' ∧ DM V a (passS V tl t D) M' := by
  have vo := mo.1
  have m4 := vo.2.2.1.2
  have C4 := cnt_le mo.2.1.1 m4
  have loop : ∀ (c m z : Nat) (D M : Mem), m + c = cntM V a → c < z → MO V a tl M → DOK V D → DM V a D M → ∃ M', fM_lives_b2 t z (nI m) M = (if M' 85 44 = -1 then (some (bz (doneS V (turnsF V tl t (mst (vN V) (V 1) (V 2) t) (vM V - us a m) (us a m) D) = true), M')).bind (fun w1 => if w1.1 = 0 then fM_lives_b50 w1.2 else fM_lives_b54 t w1.2) else fM_lives_b50 M') ∧ KeepM M M' ∧ DM V a (turnsF V tl t (mst (vN V) (V 1) (V 2) t) (vM V - us a m) (us a m) D) M' := by
    intro c
    induction c with
    | zero =>
      intro m z D M hm hz mo dk dm
      obtain ⟨z, rfl⟩ := Nat.exists_eq_succ_of_ne_zero (show z ≠ 0 by omega)
      have hmm : m = cntM V a := by omega
      rw [hmm, us_end mo.2.1.1 m4, Nat.sub_self, turnsF]
      refine ⟨M, ?_, KeepM.rfl', dm⟩
      rw [fM_lives_b2, mo.2.1.2.2.2.1, if_pos (by rw [n_le (by omega) (by omega)]; omega), fM_isReady_eq vo mo.2.1 dm]
    | succ c ih =>
      intro m z D M hm hz mo dk dm
      obtain ⟨z, rfl⟩ := Nat.exists_eq_succ_of_ne_zero (show z ≠ 0 by omega)
      rw [fM_lives_b2, mo.2.1.2.2.2.1, if_neg (by rw [n_le (by omega) (by omega)]; omega)]
      simp only [fM_lives_b24, nI_1]
      by_cases hma : m = a
      · rw [if_pos ((abs_eq mo.2.1 (by omega)).mpr hma)]
        obtain ⟨M', r1, r2, r3⟩ := ih (m + 1) z D M (by omega) (by omega) mo dk dm
        refine ⟨M', ?_, r2, ?_⟩
        · rw [r1, hma, us_eq]
        · rw [hma, us_eq] at r3
          rw [hma]; exact r3
      · rw [if_neg (fun w => hma ((abs_eq mo.2.1 (by omega)).mp w))]
        have ul := us_lt mo.2.1.1 m4 (show m < cntM V a by omega) hma
        obtain ⟨M1, r1, r2, r3⟩ := fM_acts_eq mo dk dm ul.1 ht
        rw [ul.2.1] at r1
        rw [r1]
        simp only [Option.bind_some]
        obtain ⟨M', q1, q2, q3⟩ := ih (m + 1) z _ M1 (by omega) (by omega) (mo.keep r2) (turnS_DOK vo dk ul.1 t _) r3
        have e : turnsF V tl t (mst (vN V) (V 1) (V 2) t) (vM V - us a m) (us a m) D = turnsF V tl t (mst (vN V) (V 1) (V 2) t) (vM V - us a (m + 1)) (us a (m + 1)) (turnS V tl (us a m) t (mst (vN V) (V 1) (V 2) t) D) := by
          rw [ul.2.2, show vM V - us a m = (vM V - (us a m + 1)) + 1 by omega, turnsF]
        refine ⟨M', ?_, r2.trans q2, ?_⟩
        · rw [q1, e]; rfl
        · rw [e]; exact q3
  obtain ⟨M', r1, r2, r3⟩ := loop (cntM V a) 0 1000 D M (by omega) (by omega) mo dk dm
  rw [us_0, Nat.sub_zero] at r1 r3
  unfold fM_lives
  rw [show (0 : Int32) = nI 0 from rfl, r1]
  unfold passS
  dsimp only
  have e44 := r3.2.2.2
  have same : fM_lives_b50 M' = some M' := by
    unfold fM_lives_b50 fM_lives_b54
    rw [wr_self]
  rw [e44, same]
  by_cases h1 : M' 85 44 = -1
  · rw [if_pos h1]
    simp only [Option.bind_some, bz_0]
    by_cases h2 : doneS V (turnsF V tl t (mst (vN V) (V 1) (V 2) t) (vM V) 0 D) = true
    · rw [if_neg (fun w => w h2), if_pos ⟨h1, h2⟩]
      exact ⟨_, rfl, r2.trans (KeepM.put (Or.inr ⟨rfl, by decide⟩)), r3.put45 (Or.inr ⟨rfl, rfl⟩) t⟩
    · rw [if_pos h2, if_neg (fun w => h2 w.2), same]
      exact ⟨_, rfl, r2, r3⟩
  · rw [if_neg h1, if_neg (fun w => h1 w.1)]
    exact ⟨_, rfl, r2, r3⟩
theorem fM_livesAll_b6_eq {V : Mem} {a : Nat} {tl : Tell} {n : Nat} (hn : n ≤ 100) : ∀ (c t z : Nat) (D M : Mem), t + c = n → c < z → MO V a tl M → DOK V D → DM V a D M → ∃ M', fM_livesAll_b6 (nI n) z (nI t) M = some M' ∧ KeepM M M' ∧ DM V a (dayF V tl c t D) M' := by
  intro c
  induction c with
  | zero =>
    intro t z D M ht hz mo dk dm
    obtain ⟨z, rfl⟩ := Nat.exists_eq_succ_of_ne_zero (show z ≠ 0 by omega)
    rw [fM_livesAll_b6, if_pos (by rw [n_le (by omega) (by omega)]; omega)]
    exact ⟨M, rfl, KeepM.rfl', dm⟩
  | succ c ih =>
    intro t z D M ht hz mo dk dm
    obtain ⟨z, rfl⟩ := Nat.exists_eq_succ_of_ne_zero (show z ≠ 0 by omega)
    obtain ⟨M1, r1, r2, r3⟩ := fM_lives_eq mo dk dm (t := nI t) (by rw [nI_t (by omega)]; omega)
    rw [fM_livesAll_b6, if_neg (by rw [n_le (by omega) (by omega)]; omega), r1]
    simp only [Option.bind_some, nI_1]
    obtain ⟨M', q1, q2, q3⟩ := ih (t + 1) z _ M1 (by omega) (by omega) (mo.keep r2) (passS_DOK mo.1 _ dk) r3
    exact ⟨M', q1, r2.trans q2, q3⟩
/-- what the model leaves alone when it lays its table too -/
def KeepL (M N : Mem) : Prop := (∀ a, a ≠ 85 → (a < 97 ∨ 104 < a) → N a = M a) ∧ ∀ j, (j < 21 ∨ (36 ≤ j ∧ j ≠ 43 ∧ j ≠ 44 ∧ j ≠ 132)) → N 85 j = M 85 j
theorem KeepM.l {M N : Mem} (k : KeepM M N) : KeepL M N := ⟨fun a h1 h2 => k.1 a h1 (by omega), k.2⟩
theorem KeepL.trans {M N O : Mem} (a : KeepL M N) (b : KeepL N O) : KeepL M O := ⟨fun x h1 h2 => (b.1 x h1 h2).trans (a.1 x h1 h2), fun j h => (b.2 j h).trans (a.2 j h)⟩
theorem MV.keepL {V M N : Mem} {a : Nat} (v : MV V a M) (k : KeepL M N) : MV V a N := by
  obtain ⟨h1, h2, h3, h4, h5, h6, h7, h8⟩ := v
  unfold MV
  rw [k.2 7 (by decide), k.2 11 (by decide), k.2 17 (by decide), k.2 18 (by decide), k.1 89 (by decide) (by decide), k.1 90 (by decide) (by decide), k.1 91 (by decide) (by decide), k.1 92 (by decide) (by decide), k.1 93 (by decide) (by decide), k.1 94 (by decide) (by decide), k.1 95 (by decide) (by decide), k.1 96 (by decide) (by decide)]
  exact ⟨h1, h2, h3, h4, h5, h6, h7, h8⟩
theorem fM_startsOff_b32_eq {V : Mem} {a : Nat} : ∀ (c k z : Nat) (M : Mem), k + c = 4 → c < z → MV V a M → (∀ j, j < k → M 98 j = M 94 j ∧ M 99 j = 0 ∧ M 101 j = 0 ∧ M 102 j = 0 ∧ M 103 j = 0) → ∃ M', fM_startsOff_b32 z (nI k) M = some M' ∧ KeepM M M' ∧ (∀ j, j < 4 → M' 98 j = M' 94 j ∧ M' 99 j = 0 ∧ M' 101 j = 0 ∧ M' 102 j = 0 ∧ M' 103 j = 0) ∧ M' 104 = M 104 ∧ M' 85 43 = 0 ∧ M' 85 44 = -1 := by
  intro c
  induction c with
  | zero =>
    intro k z M hk hz v hq
    obtain ⟨z, rfl⟩ := Nat.exists_eq_succ_of_ne_zero (show z ≠ 0 by omega)
    have : k = 4 := by omega
    subst this
    rw [fM_startsOff_b32, if_pos (by decide)]
    refine ⟨_, rfl, (KeepM.put (Or.inr ⟨rfl, by decide⟩)).trans (KeepM.put (Or.inr ⟨rfl, by decide⟩)), ?_, ?_, ?_, ?_⟩
    · intro j hj
      simp only [wr_ne (show 94 ≠ 85 by decide), wr_ne (show 98 ≠ 85 by decide), wr_ne (show 99 ≠ 85 by decide), wr_ne (show 101 ≠ 85 by decide), wr_ne (show 102 ≠ 85 by decide), wr_ne (show 103 ≠ 85 by decide)]
      exact hq j hj
    · rw [wr_ne (by decide), wr_ne (by decide)]
    · rw [wr_at (by decide), wr_same]
    · rw [wr_same]
  | succ c ih =>
    intro k z M hk hz v hq
    obtain ⟨z, rfl⟩ := Nat.exists_eq_succ_of_ne_zero (show z ≠ 0 by omega)
    have gk : ib (nI k) 4 := ib_nI (by omega) (by omega)
    have ek : ix (nI k) = k := ix_nI (by omega)
    rw [fM_startsOff_b32, if_neg (by rw [show (4 : Int32) = nI 4 from rfl, n_le (by omega) (by omega)]; omega), if_pos gk, if_pos gk, if_pos gk, if_pos gk, if_pos gk, if_pos gk, ek, nI_1]
    generalize hN : wr (wr (wr (wr (wr M 98 k (M 94 k)) 99 k 0) 101 k 0) 102 k 0) 103 k 0 = N
    have kp : KeepM M N := by
      rw [← hN]
      exact ((((KeepM.put (Or.inl (by decide))).trans (KeepM.put (Or.inl (by decide)))).trans (KeepM.put (Or.inl (by decide)))).trans (KeepM.put (Or.inl (by decide)))).trans (KeepM.put (Or.inl (by decide)))
    have r104 : N 104 = M 104 := by rw [← hN, wr_ne (by decide), wr_ne (by decide), wr_ne (by decide), wr_ne (by decide), wr_ne (by decide)]
    obtain ⟨M', r1, r2, r3, r4, r5⟩ := ih (k + 1) z N (by omega) (by omega) (v.keep kp) (fun j hj => by
      rw [kp.1 94 (by decide) (by decide), ← hN]
      by_cases hjk : j = k
      · subst hjk; simp [wr]
      · have := hq j (by omega)
        simp [wr, hjk]
        exact this)
    exact ⟨M', r1, kp.trans r2, r3, r4.trans r104, r5⟩
theorem fM_startsOff_b6_eq {V : Mem} {a : Nat} (vo : VOK V) : ∀ (c k z : Nat) (M : Mem), k + c = 8 → c < z → MV V a M → (∀ j, j < k → M 104 j = M 89 j) → ∃ M', fM_startsOff_b6 z (nI k) M = some M' ∧ KeepM M M' ∧ DM V a (startS V) M' := by
  intro c
  induction c with
  | zero =>
    intro k z M hk hz v hq
    obtain ⟨z, rfl⟩ := Nat.exists_eq_succ_of_ne_zero (show z ≠ 0 by omega)
    have : k = 8 := by omega
    subst this
    rw [fM_startsOff_b6, if_pos (by decide)]
    obtain ⟨M', r1, r2, r3, r4, r5, r6⟩ := fM_startsOff_b32_eq 4 0 1000 M (by omega) (by omega) v (fun j hj => absurd hj (by omega))
    refine ⟨M', r1, r2, ?_⟩
    have v' := v.keep r2
    refine ⟨fun k hk => ?_, fun r hr => ?_, r5.symm, r6.symm⟩
    · have C := v'.2.2.2.2.2.2.2 k hk
      have hs : sk a k < 4 := by
        have h := v.1
        unfold sk
        split
        · omega
        · have m4 := vo.2.2.1.2
          have := h.2 (by omega); omega
      obtain ⟨z1, z2, z3, z4, z5⟩ := r3 _ hs
      rw [z1, z2, z3, z4, z5, C.1.2.2.1]
      exact ⟨rfl, rfl, fun h => absurd h (show ¬ 0 < (0 : Int32).toInt by decide), rfl, rfl, rfl⟩
    · rw [r4, hq r hr, v.2.2.2.2.2.2.1 r hr]; rfl
  | succ c ih =>
    intro k z M hk hz v hq
    obtain ⟨z, rfl⟩ := Nat.exists_eq_succ_of_ne_zero (show z ≠ 0 by omega)
    have gk : ib (nI k) 8 := ib_nI (by omega) (by omega)
    have ek : ix (nI k) = k := ix_nI (by omega)
    rw [fM_startsOff_b6, if_neg (by rw [show (8 : Int32) = nI 8 from rfl, n_le (by omega) (by omega)]; omega), if_pos gk, if_pos gk, ek, nI_1]
    have kp : KeepM M (wr M 104 k (M 89 k)) := KeepM.put (Or.inl (by decide))
    obtain ⟨M', r1, r2, r3⟩ := ih (k + 1) z _ (by omega) (by omega) (v.keep kp) (fun j hj => by
      rw [wr_ne (show 89 ≠ 104 by decide)]
      by_cases hjk : j = k
      · subst hjk; rw [wr_same]
      · rw [wr_at hjk]; exact hq j (by omega))
    exact ⟨M', r1, kp.trans r2, r3⟩
/-- what a day of the model needs of M before its table is laid -/
def MO0 (V : Mem) (a : Nat) (tl : Tell) (M : Mem) : Prop := VOK V ∧ MV V a M ∧ VMo (M 85 4) tl (M 86) (M 87)
theorem MO0.keepL {V M N : Mem} {a : Nat} {tl : Tell} (v : MO0 V a tl M) (k : KeepL M N) : MO0 V a tl N := ⟨v.1, v.2.1.keepL k, by rw [k.2 4 (by decide), k.1 86 (by decide) (by decide), k.1 87 (by decide) (by decide)]; exact v.2.2⟩
theorem fM_startsOff_eq {V : Mem} {a : Nat} {tl : Tell} {M : Mem} (mo : MO0 V a tl M) : ∃ M', fM_startsOff M = some M' ∧ KeepL M M' ∧ MO V a tl M' ∧ DM V a (startS V) M' := by
  have v := mo.2.1
  unfold fM_startsOff
  rw [fM_gathers_eq mo.1.1.2 v.2.1]
  simp only [Option.bind_some]
  have kl : KeepL M (gaM (vS V) M) := ⟨fun x h1 h2 => by
    funext b
    unfold gaM tbM
    rw [if_neg (by omega)], fun j hj => by
    unfold gaM tbM
    rw [if_neg (by omega)]⟩
  have v1 := v.keepL kl
  obtain ⟨M', r1, r2, r3⟩ := fM_startsOff_b6_eq mo.1 8 0 1000 _ (by omega) (by omega) v1 (fun j hj => absurd hj (by omega))
  have mo1 := mo.keepL (kl.trans r2.l)
  exact ⟨M', r1, kl.trans r2.l, ⟨mo1.1, mo1.2.1, mo1.2.2, (gaM_TB v.2.1).keep r2⟩, r3⟩
theorem fM_livesAll_eq {V : Mem} {a : Nat} {tl : Tell} {M : Mem} {n : Nat} (hn : n ≤ 100) (mo : MO0 V a tl M) : ∃ M', fM_livesAll (nI n) M = some M' ∧ KeepL M M' ∧ DM V a (dayS V tl n) M' := by
  obtain ⟨M1, r1, r2, r3, r4⟩ := fM_startsOff_eq mo
  obtain ⟨M', q1, q2, q3⟩ := fM_livesAll_b6_eq hn n 0 1000 (startS V) M1 (by omega) (by omega) r3 (DOK.start mo.1 (startS_start V)) r4
  unfold fM_livesAll
  rw [r1]
  simp only [Option.bind_some]
  exact ⟨M', q1, r2.trans q2.l, q3⟩
/-- the sums -/
theorem fM_leftAll_eq (M : Mem) : fM_leftAll M = some (sumF (M 104) 8 0 0, M) := by
  have loop : ∀ (c k z : Nat) (acc : Int32), k + c = 8 → c < z → fM_leftAll_b4 z acc (nI k) M = some (sumF (M 104) c k acc, M) := by
    intro c
    induction c with
    | zero =>
      intro k z acc hk hz
      obtain ⟨z, rfl⟩ := Nat.exists_eq_succ_of_ne_zero (show z ≠ 0 by omega)
      have : k = 8 := by omega
      subst this
      rw [fM_leftAll_b4, if_pos (by decide), sumF]
    | succ c ih =>
      intro k z acc hk hz
      obtain ⟨z, rfl⟩ := Nat.exists_eq_succ_of_ne_zero (show z ≠ 0 by omega)
      rw [fM_leftAll_b4, if_neg (by rw [show (8 : Int32) = nI 8 from rfl, n_le (by omega) (by omega)]; omega), if_pos (ib_nI (by omega) (by omega)), ix_nI (by omega), nI_1, sumF]
      exact ih (k + 1) z _ (by omega) (by omega)
  exact loop 8 0 1000 0 (by omega) (by omega)
theorem fN_sum_eq (q : Nat) (M : Mem) : fN_sum q M = some (sumF (M q) 8 0 0, M) := by
  have loop : ∀ (c k z : Nat) (acc : Int32), k + c = 8 → c < z → fN_sum_b4 q z acc (nI k) M = some (sumF (M q) c k acc, M) := by
    intro c
    induction c with
    | zero =>
      intro k z acc hk hz
      obtain ⟨z, rfl⟩ := Nat.exists_eq_succ_of_ne_zero (show z ≠ 0 by omega)
      have : k = 8 := by omega
      subst this
      rw [fN_sum_b4, if_pos (by decide), sumF]
    | succ c ih =>
      intro k z acc hk hz
      obtain ⟨z, rfl⟩ := Nat.exists_eq_succ_of_ne_zero (show z ≠ 0 by omega)
      rw [fN_sum_b4, if_neg (by rw [show Int32.ofNat 8 = nI 8 from rfl, n_le (by omega) (by omega)]; omega), if_pos (ib_nI (by omega) (by omega)), ix_nI (by omega), nI_1, sumF]
      exact ih (k + 1) z _ (by omega) (by omega)
  exact loop 8 0 1000 0 (by omega) (by omega)
/-- how dear a morning is, how much is left -/
def dearS (V : Mem) (tl : Tell) : Int32 := sumF (dayS V tl 100 56) 8 0 0 + dayS V tl 100 45 13
theorem fM_dear_eq {V : Mem} {a : Nat} {tl : Tell} {M : Mem} (mo : MO0 V a tl M) : ∃ M', fM_dear M = some (dearS V tl, M') ∧ KeepL M M' ∧ DM V a (dayS V tl 100) M' := by
  obtain ⟨M', q1, q2, q3⟩ := fM_livesAll_eq (show 100 ≤ 100 by omega) mo
  unfold fM_dear dearS
  rw [show fM_livesAll 100 M = fM_livesAll (nI 100) M from rfl, q1]
  simp only [Option.bind_some, fM_leftAll_eq]
  rw [q3.2.2.1, sumF_congr (g := M' 104) (g' := dayS V tl 100 56) 8 0 0 (fun j _ h => (q3.2.1 j (by omega)).symm)]
  exact ⟨M', rfl, q2, q3⟩
end
section
/-! 30: what the code of a text says -/
abbrev Stk : Type := Nat → Int32
def stS (S : Stk) (k : Nat) (v : Int32) : Stk := fun j => if j = k then v else S j
def jn (s a b : Int32) : Int32 := if s = 10 then (if a ≠ 0 ∧ b ≠ 0 then 1 else 0) else if s = 42 then a * b else if s = 43 then a + b else if s = 45 then a - b else if s = 60 then (if a < b then 1 else 0) else if s = 61 then (if a = b then 1 else 0) else (if a ≠ 0 ∨ b ≠ 0 then 1 else 0)
def stepC (nm : Stk) (c : Int32) (S : Stk) (h : Nat) : Option (Stk × Nat) :=
  if c < -6 then
    (if c = -12 then (if 1 ≤ h then some (stS S (h - 1) (-S (h - 1)), h) else none)
     else if c = -11 then (if 1 ≤ h then some (stS S (h - 1) (if S (h - 1) = 0 then 1 else 0), h) else none)
     else if 2 ≤ h then some (stS S (h - 2) (jn (-c) (S (h - 2)) (S (h - 1))), h - 1) else none)
  else if c < 0 then some (stS S h (nm (ix (-1 - c))), h + 1) else some (stS S h c, h + 1)
def runC (nm C : Stk) : Nat → Nat → Stk → Nat → Option (Stk × Nat)
  | 0, _, S, h => some (S, h)
  | c + 1, i, S, h => (stepC nm (C i) S h).bind fun q => runC nm C c (i + 1) q.1 q.2
theorem runC_add (nm C : Stk) : ∀ (a b i : Nat) (S : Stk) (h : Nat), runC nm C (a + b) i S h = (runC nm C a i S h).bind fun q => runC nm C b (i + a) q.1 q.2
  | 0, b, i, S, h => by rw [Nat.zero_add]; rfl
  | a + 1, b, i, S, h => by
    rw [show a + 1 + b = (a + b) + 1 by omega, runC, runC]
    cases stepC nm (C i) S h with
    | none => rfl
    | some q =>
      simp only [Option.bind_some]
      rw [runC_add nm C a b (i + 1), show i + 1 + a = i + (a + 1) by omega]
theorem runC_congr {nm C D : Stk} (c : Nat) : ∀ (i : Nat) (S : Stk) (h : Nat), (∀ j, i ≤ j → j < i + c → D j = C j) → runC nm D c i S h = runC nm C c i S h := by
  induction c with
  | zero => intro i S h e; rfl
  | succ c ih =>
    intro i S h e
    rw [runC, runC, e i (Nat.le_refl _) (by omega)]
    cases stepC nm (C i) S h with
    | none => simp only [Option.bind_none]
    | some q =>
      simp only [Option.bind_some]
      exact ih (i + 1) _ _ (fun j h1 h2 => e j (by omega) (by omega))
theorem runC_nm {nm nn C : Stk} (hn : ∀ j, j < 6 → nn j = nm j) (c : Nat) : ∀ (i : Nat) (S : Stk) (h : Nat), runC nn C c i S h = runC nm C c i S h := by
  have m6 : (-6 : Int32).toInt = -6 := rfl
  have m0 : (0 : Int32).toInt = 0 := rfl
  have m1 : (-1 : Int32).toInt = -1 := rfl
  induction c with
  | zero => intro i S h; rfl
  | succ c ih =>
    intro i S h
    have e : stepC nn (C i) S h = stepC nm (C i) S h := by
      unfold stepC
      by_cases c1 : C i < -6
      · rw [if_pos c1, if_pos c1]
      · rw [if_neg c1, if_neg c1]
        by_cases c2 : C i < 0
        · have hb : ib (-1 - C i) 6 := by
            rw [i_lt] at c1 c2
            unfold ib
            rw [t_sub (by omega) (by omega)]
            omega
          rw [if_pos c2, if_pos c2, hn _ (ix_lt hb)]
        · rw [if_neg c2, if_neg c2]
    rw [runC, runC, e]
    cases stepC nm (C i) S h with
    | none => rfl
    | some q =>
      simp only [Option.bind_some]
      exact ih (i + 1) _ _
theorem stepC_h {nm S S' : Stk} {c : Int32} {h h' : Nat} (e : stepC nm c S h = some (S', h')) : h' ≤ h + 1 ∧ (c < -6 → 1 ≤ h) := by
  unfold stepC at e
  by_cases h1 : c < -6
  · rw [if_pos h1] at e
    by_cases h2 : c = -12
    · rw [if_pos h2] at e
      by_cases h3 : 1 ≤ h
      · rw [if_pos h3] at e; cases e; exact ⟨by omega, fun _ => h3⟩
      · rw [if_neg h3] at e; cases e
    · rw [if_neg h2] at e
      by_cases h4 : c = -11
      · rw [if_pos h4] at e
        by_cases h3 : 1 ≤ h
        · rw [if_pos h3] at e; cases e; exact ⟨by omega, fun _ => h3⟩
        · rw [if_neg h3] at e; cases e
      · rw [if_neg h4] at e
        by_cases h3 : 2 ≤ h
        · rw [if_pos h3] at e; cases e; exact ⟨by omega, fun _ => by omega⟩
        · rw [if_neg h3] at e; cases e
  · rw [if_neg h1] at e
    by_cases h2 : c < 0
    · rw [if_pos h2] at e; cases e; exact ⟨by omega, fun w => absurd w h1⟩
    · rw [if_neg h2] at e; cases e; exact ⟨by omega, fun w => absurd w h1⟩
theorem fG_joined_eq (s a b : Int32) (M : Mem) : fG_joined s a b M = some (jn s a b, M) := by
  unfold fG_joined jn fG_joined_b116
  by_cases h1 : s = 10
  · rw [if_pos h1, if_pos h1]
    by_cases h2 : a = 0
    · rw [if_pos h2, if_neg (fun w => w.1 h2)]
    · rw [if_neg h2]
      by_cases h3 : b = 0
      · rw [if_pos h3, if_neg (fun w => w.2 h3)]
      · rw [if_neg h3, if_pos ⟨h2, h3⟩]
  · rw [if_neg h1, if_neg h1]
    by_cases h2 : s = 42
    · rw [if_pos h2, if_pos h2]
    · rw [if_neg h2, if_neg h2]
      by_cases h3 : s = 43
      · rw [if_pos h3, if_pos h3]
      · rw [if_neg h3, if_neg h3]
        by_cases h4 : s = 45
        · rw [if_pos h4, if_pos h4]
        · rw [if_neg h4, if_neg h4]
          by_cases h5 : s = 60
          · rw [if_pos h5, if_pos h5]
            by_cases h6 : a < b
            · rw [if_pos h6, if_neg (by rw [i_le]; rw [i_lt] at h6; omega)]
            · rw [if_neg h6, if_pos (by rw [i_le]; rw [i_lt] at h6; omega)]
          · rw [if_neg h5, if_neg h5]
            by_cases h6 : s = 61
            · rw [if_pos h6, if_pos h6]
              by_cases h7 : a = b
              · rw [if_pos h7, if_pos h7]
              · rw [if_neg h7, if_neg h7]
            · rw [if_neg h6, if_neg h6]
              by_cases h7 : a = 0
              · rw [if_pos h7]
                by_cases h8 : b = 0
                · rw [if_pos h8, if_neg (by rintro (w | w); exact w h7; exact w h8)]
                · rw [if_neg h8, if_pos (Or.inr h8)]
              · rw [if_neg h7, if_pos (Or.inl h7)]
theorem wr_stS (N : Mem) (k j : Nat) (v : Int32) : wr N k j v k = stS (N k) j v := by
  funext b
  unfold wr stS
  by_cases h : b = j
  · rw [if_pos ⟨rfl, h⟩, if_pos h]
  · rw [if_neg (fun w => h w.2), if_neg h]
theorem nI_pd {h : Nat} (h1 : 1 ≤ h) : nI h - 1 = nI (h - 1) := by
  obtain ⟨k, rfl⟩ := Nat.exists_eq_succ_of_ne_zero (show h ≠ 0 by omega)
  rw [show (1 : Int32) = nI 1 from rfl, Nat.succ_eq_add_one, ← nI_add, Int32.add_sub_cancel, Nat.add_sub_cancel]
theorem nI_pdm {h : Nat} (h1 : 1 ≤ h) : nI h + (-1) = nI (h - 1) := by
  rw [← Int32.sub_eq_add_neg]; exact nI_pd h1
theorem fG_value_b21_eq {q p e : Nat} {nm C : Stk} (hq : 59 ≤ q) (hp : p < 3) (he : e ≤ 160) : ∀ (c i h z : Nat) (N : Mem) (S' : Stk) (h' : Nat), i + c = e → c < z → N (q + 2) p = nI e → N (q + 1) = C → (∀ j, j < 6 → N 48 j = nm j) → h ≤ i → runC nm C c i (N 49) h = some (S', h') → ∃ N', fG_value_b21 q (nI p) z (nI h) (nI i) N = some (S' 0, N') ∧ ∀ a, a ≠ 49 → N' a = N a := by
  have m6 : (-6 : Int32).toInt = -6 := rfl
  have m0 : (0 : Int32).toInt = 0 := rfl
  have m1 : (-1 : Int32).toInt = -1 := rfl
  intro c
  induction c with
  | zero =>
    intro i h z N S' h' hi hz he2 hC hn hh hr
    obtain ⟨z, rfl⟩ := Nat.exists_eq_succ_of_ne_zero (show z ≠ 0 by omega)
    rw [runC] at hr
    cases hr
    rw [fG_value_b21, if_pos (ib_nI hp (by omega)), ix_nI (by omega), he2, if_pos (by rw [n_le (by omega) (by omega)]; omega), if_pos (by decide)]
    exact ⟨N, rfl, fun _ _ => rfl⟩
  | succ c ih =>
    intro i h z N S' h' hi hz he2 hC hn hh hr
    obtain ⟨z, rfl⟩ := Nat.exists_eq_succ_of_ne_zero (show z ≠ 0 by omega)
    rw [runC] at hr
    have next : ∀ (S1 : Stk) (h1 : Nat) (j : Nat) (v : Int32), stepC nm (C i) (N 49) h = some (S1, h1) → S1 = stS (N 49) j v → h1 ≤ i + 1 → ∃ N', fG_value_b21 q (nI p) z (nI h1) (nI (i + 1)) (wr N 49 j v) = some (S' 0, N') ∧ ∀ a, a ≠ 49 → N' a = N a := by
      intro S1 h1 j v e1 e2 e3
      rw [e1] at hr
      simp only [Option.bind_some] at hr
      obtain ⟨N', r1, r2⟩ := ih (i + 1) h1 z (wr N 49 j v) S' h' (by omega) (by omega) (by rw [wr_ne (by omega)]; exact he2) (by rw [wr_ne (by omega)]; exact hC) (fun j hj => by rw [wr_ne (show 48 ≠ 49 by decide)]; exact hn j hj) e3 (by rw [wr_stS, ← e2]; exact hr)
      exact ⟨N', r1, fun a ha => by rw [r2 a ha, wr_ne ha]⟩
    rw [fG_value_b21, if_pos (ib_nI hp (by omega)), ix_nI (by omega), he2, if_neg (by rw [n_le (by omega) (by omega)]; omega), if_pos (ib_nI (by omega) (by omega)), ix_nI (show i < 2147483648 by omega), hC]
    have push : ∀ v, fG_value_b74 (fG_value_b21 q (nI p) z) q (nI p) (nI h) (nI i) v (nI h) N = fG_value_b21 q (nI p) z (nI (h + 1)) (nI (i + 1)) (wr N 49 h v) := fun v => by
      unfold fG_value_b74 fG_value_b177
      rw [if_pos (ib_nI (by omega) (by omega)), nI_1, nI_1, ix_nI (by omega)]
    by_cases c1 : C i < -6
    · rw [if_pos c1]
      unfold fG_value_b81 fG_value_b110 fG_value_b146 fG_value_b142 fG_value_b177
      have lt1 : ∀ k : Nat, k < 3 → ((nI h < nI k) ↔ h < k) := fun k hk => n_lt (by omega) (by omega)
      by_cases c2 : C i = -12
      · rw [if_pos c2, show (1 : Int32) = nI 1 from rfl]
        by_cases c3 : 1 ≤ h
        · rw [if_neg (by rw [lt1 1 (by omega)]; omega), show nI 1 = 1 from rfl, nI_pd c3, if_pos (ib_nI (by omega) (by omega)), if_pos (ib_nI (by omega) (by omega)), ix_nI (by omega), nI_1]
          refine next _ h (h - 1) _ ?_ rfl (by omega)
          unfold stepC
          rw [if_pos c1, if_pos c2, if_pos c3]
        · exfalso
          unfold stepC at hr
          rw [if_pos c1, if_pos c2, if_neg c3] at hr
          cases hr
      · rw [if_neg c2]
        by_cases c4 : C i = -11
        · rw [if_pos c4, show (1 : Int32) = nI 1 from rfl]
          by_cases c3 : 1 ≤ h
          · rw [if_neg (by rw [lt1 1 (by omega)]; omega), show nI 1 = 1 from rfl, nI_pd c3, if_pos (ib_nI (by omega) (by omega)), if_pos (ib_nI (by omega) (by omega)), ix_nI (by omega), nI_1]
            by_cases c5 : N 49 (h - 1) = 0
            · rw [if_pos c5]
              refine next _ h (h - 1) 1 ?_ rfl (by omega)
              unfold stepC
              rw [if_pos c1, if_neg c2, if_pos c4, if_pos c3, if_pos c5]
            · rw [if_neg c5, if_pos (ib_nI (by omega) (by omega))]
              refine next _ h (h - 1) 0 ?_ rfl (by omega)
              unfold stepC
              rw [if_pos c1, if_neg c2, if_pos c4, if_pos c3, if_neg c5]
          · exfalso
            unfold stepC at hr
            rw [if_pos c1, if_neg c2, if_pos c4, if_neg c3] at hr
            cases hr
        · rw [if_neg c4, show (2 : Int32) = nI 2 from rfl]
          by_cases c3 : 2 ≤ h
          · rw [if_neg (by rw [lt1 2 (by omega)]; omega), nI_pdm (by omega), nI_pd (show 1 ≤ h - 1 by omega), if_pos (ib_nI (by omega) (by omega)), if_pos (ib_nI (by omega) (by omega)), ix_nI (by omega), ix_nI (by omega), fG_joined_eq]
            simp only [Option.bind_some]
            rw [if_pos (ib_nI (by omega) (by omega)), nI_1, show h - 1 - 1 = h - 2 by omega]
            refine next _ (h - 1) (h - 2) _ ?_ rfl (by omega)
            unfold stepC
            rw [if_pos c1, if_neg c2, if_neg c4, if_pos c3]
          · exfalso
            unfold stepC at hr
            rw [if_pos c1, if_neg c2, if_neg c4, if_neg c3] at hr
            cases hr
    · rw [if_neg c1, if_neg (by rw [show Int32.ofNat 160 = nI 160 from rfl, n_le (by omega) (by omega)]; omega)]
      by_cases c2 : C i < 0
      · have hb : ib (-1 - C i) 6 := by
          rw [i_lt] at c1 c2
          unfold ib
          rw [t_sub (by omega) (by omega)]
          omega
        rw [if_pos c2, if_pos hb, hn _ (ix_lt hb), push]
        refine next _ (h + 1) h _ ?_ rfl (by omega)
        unfold stepC
        rw [if_neg c1, if_pos c2]
      · rw [if_neg c2, push]
        refine next _ (h + 1) h _ ?_ rfl (by omega)
        unfold stepC
        rw [if_neg c1, if_neg c2]
/-- where the part p begins -/
abbrev bgn (E : Stk) (p : Nat) : Nat := if p = 0 then 0 else ix (E (p - 1))
/-- the code from w to w' says v -/
def Ev (nm C : Stk) (w w' : Nat) (v : Int32) : Prop := ∀ S h, h ≤ w → ∃ S', runC nm C (w' - w) w S h = some (S', h + 1) ∧ S' h = v ∧ ∀ j, j < h → S' j = S j
theorem Ev.congr {nm C D : Stk} {w w' : Nat} {v : Int32} (e : Ev nm C w w' v) (hw : w ≤ w') (h : ∀ i, w ≤ i → i < w' → D i = C i) : Ev nm D w w' v := by
  intro S k hk
  rw [runC_congr _ _ _ _ (fun j h1 h2 => h j h1 (by omega))]
  exact e S k hk
/-- a number or a name -/
theorem Ev.one {nm C : Stk} {w : Nat} {v : Int32} (h : (0 ≤ (C w).toInt ∧ v = C w) ∨ (-6 ≤ (C w).toInt ∧ (C w).toInt < 0 ∧ v = nm (ix (-1 - C w)))) : Ev nm C w (w + 1) v := by
  have m6 : (-6 : Int32).toInt = -6 := rfl
  have m0 : (0 : Int32).toInt = 0 := rfl
  intro S k hk
  rw [show w + 1 - w = 1 by omega, runC]
  unfold stepC
  rcases h with ⟨h1, h2⟩ | ⟨h1, h2, h3⟩
  · rw [if_neg (by rw [i_lt]; omega), if_neg (by rw [i_lt]; omega)]
    simp only [Option.bind_some, runC]
    refine ⟨_, rfl, ?_, fun j hj => ?_⟩
    · unfold stS; rw [if_pos rfl, h2]
    · unfold stS; rw [if_neg (by omega)]
  · rw [if_neg (by rw [i_lt]; omega), if_pos (by rw [i_lt]; omega)]
    simp only [Option.bind_some, runC]
    refine ⟨_, rfl, ?_, fun j hj => ?_⟩
    · unfold stS; rw [if_pos rfl, h3]
    · unfold stS; rw [if_neg (by omega)]
theorem Ev.un {nm C : Stk} {w w' : Nat} {v u : Int32} (e : Ev nm C w w' v) (hw : w ≤ w') (h : (C w' = -12 ∧ u = -v) ∨ (C w' = -11 ∧ u = if v = 0 then 1 else 0)) : Ev nm C w (w' + 1) u := by
  intro S k hk
  obtain ⟨S', r1, r2, r3⟩ := e S k hk
  rw [show w' + 1 - w = (w' - w) + 1 by omega, runC_add, r1]
  simp only [Option.bind_some, runC, show w + (w' - w) = w' by omega]
  unfold stepC
  rcases h with ⟨h1, h2⟩ | ⟨h1, h2⟩
  · rw [h1, if_pos (by decide), if_pos rfl, if_pos (by omega)]
    simp only [Option.bind_some]
    refine ⟨_, rfl, ?_, fun j hj => ?_⟩
    · unfold stS; rw [if_pos (by omega), Nat.add_sub_cancel, r2, h2]
    · unfold stS; rw [if_neg (by omega)]; exact r3 j hj
  · rw [h1, if_pos (by decide), if_neg (by decide), if_pos rfl, if_pos (by omega)]
    simp only [Option.bind_some]
    refine ⟨_, rfl, ?_, fun j hj => ?_⟩
    · unfold stS; rw [if_pos (by omega), Nat.add_sub_cancel, r2, h2]
    · unfold stS; rw [if_neg (by omega)]; exact r3 j hj
theorem Ev.bin {nm C : Stk} {w w1 w2 : Nat} {a b s : Int32} (e1 : Ev nm C w w1 a) (e2 : Ev nm C w1 w2 b) (h1 : w < w1) (h2 : w1 ≤ w2) (hc : C w2 = -s) (hs : (9 ≤ s.toInt ∧ s.toInt ≤ 10) ∨ (13 ≤ s.toInt ∧ s.toInt ≤ 1000)) : Ev nm C w (w2 + 1) (jn s a b) := by
  intro S k hk
  obtain ⟨S1, r1, r2, r3⟩ := e1 S k hk
  obtain ⟨S2, q1, q2, q3⟩ := e2 S1 (k + 1) (by omega)
  have m6 : (-6 : Int32).toInt = -6 := rfl
  have m12 : (-12 : Int32).toInt = -12 := rfl
  have m11 : (-11 : Int32).toInt = -11 := rfl
  have ms : (-s).toInt = -s.toInt := t_neg (by omega)
  rw [show w2 + 1 - w = (w1 - w) + ((w2 - w1) + 1) by omega, runC_add, r1]
  simp only [Option.bind_some, show w + (w1 - w) = w1 by omega]
  rw [runC_add, q1]
  simp only [Option.bind_some, runC, show w1 + (w2 - w1) = w2 by omega]
  unfold stepC
  rw [hc, if_pos (by rw [i_lt]; omega), if_neg (by rw [i_eq]; omega), if_neg (by rw [i_eq]; omega), if_pos (by omega), Int32.neg_neg]
  simp only [Option.bind_some]
  refine ⟨_, rfl, ?_, fun j hj => ?_⟩
  · unfold stS
    rw [if_pos (by omega), show k + 1 + 1 - 2 = k by omega, show k + 1 + 1 - 1 = k + 1 by omega, q2, q3 k (by omega), r2]
  · unfold stS
    rw [if_neg (by omega), q3 j (by omega), r3 j hj]
/-- code that is whole: each part says one thing -/
def WFc (C E : Stk) : Prop := (∀ p, p < 3 → E p = nI (ix (E p)) ∧ bgn E p ≤ ix (E p) ∧ ix (E p) ≤ 160) ∧ ∀ nm p, p < 3 → ∃ v, Ev nm C (bgn E p) (ix (E p)) v
/-- what it says -/
def tlC (C E : Stk) : Tell := fun p a b c d e f => ((runC (fun j => if j = 0 then a else if j = 1 then b else if j = 2 then c else if j = 3 then d else if j = 4 then e else f) C (ix (E p) - bgn E p) (bgn E p) (fun _ => 0) 0).map (fun q => q.1 0)).getD 0
theorem runC_S0 {nm C : Stk} {w w' : Nat} {v : Int32} (e : Ev nm C w w' v) (S : Stk) : ∃ S', runC nm C (w' - w) w S 0 = some (S', 1) ∧ S' 0 = v := by
  obtain ⟨S', r1, r2, -⟩ := e S 0 (Nat.zero_le _)
  exact ⟨S', r1, r2⟩
theorem Ev.uniq {nm C : Stk} {w w' : Nat} {v u : Int32} (e : Ev nm C w w' v) (f : Ev nm C w w' u) : v = u := by
  obtain ⟨S', r1, r2⟩ := runC_S0 e (fun _ => 0)
  obtain ⟨S2, q1, q2⟩ := runC_S0 f (fun _ => 0)
  rw [r1] at q1
  cases q1
  rw [← r2, ← q2]
theorem tlC_eq {nm C E : Stk} {p : Nat} {v : Int32} (e : Ev nm C (bgn E p) (ix (E p)) v) : tlC C E p (nm 0) (nm 1) (nm 2) (nm 3) (nm 4) (nm 5) = v := by
  obtain ⟨S', r1, r2⟩ := runC_S0 e (fun _ => 0)
  have hn : ∀ j, j < 6 → (fun j => if j = 0 then nm 0 else if j = 1 then nm 1 else if j = 2 then nm 2 else if j = 3 then nm 3 else if j = 4 then nm 4 else nm 5) j = nm j := by
    intro j hj
    dsimp only
    repeat' split
    all_goals (first | (subst_vars; rfl) | (congr 1; omega))
  unfold tlC
  rw [runC_nm hn, r1]
  exact r2
theorem VCl_of {q : Nat} {C E : Stk} (hq : 59 ≤ q) (w : WFc C E) : VCl q (tlC C E) C E := by
  intro N p h1 h2 hp
  obtain ⟨v, e⟩ := w.2 (N 48) p hp
  obtain ⟨b1, b2, b3⟩ := w.1 p hp
  obtain ⟨S', r1, r2⟩ := runC_S0 e (N 49)
  obtain ⟨N', q1, q2⟩ := fG_value_b21_eq (nm := N 48) (C := C) hq hp b3 (ix (E p) - bgn E p) (bgn E p) 0 1000 N S' 1 (by omega) (by omega) (by rw [h2]; exact b1) h1 (fun _ _ => rfl) (Nat.zero_le _) r1
  rw [r2] at q1
  refine ⟨N', ?_, q2⟩
  rw [tlC_eq e, ← q1]
  unfold fG_value fG_value_b19
  by_cases h0 : p = 0
  · subst h0
    rw [if_pos (show nI 0 = 0 from rfl)]
    rfl
  · rw [if_neg (by rw [show (0 : Int32) = nI 0 from rfl, n_eq (by omega) (by omega)]; exact h0), nI_pd (by omega), if_pos (ib_nI (by omega) (by omega)), ix_nI (by omega), h2, (w.1 (p - 1) (by omega)).1]
    rw [show bgn E p = ix (E (p - 1)) from if_neg h0]
    rfl
end
section
/-! 31: tokens, in the class and in the model -/
def rnT (P : Int32 → Bool) (n : Nat) (T : Stk) : Nat → Nat → Nat
  | 0, i => i
  | c + 1, i => if i < n ∧ P (T i) = true then rnT P n T c (i + 1) else i
/-- the end of the run of bytes with P -/
def rn (P : Int32 → Bool) (n : Nat) (T : Stk) (i : Nat) : Nat := rnT P n T (n - i) i
theorem rn_stop {P : Int32 → Bool} {n i : Nat} {T : Stk} (h : ¬ (i < n ∧ P (T i) = true)) : rn P n T i = i := by
  unfold rn
  cases n - i with
  | zero => rfl
  | succ c => rw [rnT, if_neg h]
theorem rn_go {P : Int32 → Bool} {n i : Nat} {T : Stk} (h1 : i < n) (h2 : P (T i) = true) : rn P n T i = rn P n T (i + 1) := by
  unfold rn
  rw [show n - i = (n - (i + 1)) + 1 by omega, rnT, if_pos ⟨h1, h2⟩]
theorem rn_bd' {P : Int32 → Bool} {n : Nat} {T : Stk} : ∀ (c i : Nat), n - i = c → i ≤ n → i ≤ rn P n T i ∧ rn P n T i ≤ n ∧ (rn P n T i < n → P (T (rn P n T i)) = false) ∧ ∀ j, i ≤ j → j < rn P n T i → P (T j) = true := by
  intro c
  induction c with
  | zero =>
    intro i h hi
    rw [rn_stop (by omega)]
    exact ⟨by omega, by omega, fun h => by omega, fun j h1 h2 => by omega⟩
  | succ c ih =>
    intro i h hi
    by_cases hp : P (T i) = true
    · rw [rn_go (by omega) hp]
      obtain ⟨h1, h2, h3, h4⟩ := ih (i + 1) (by omega) (by omega)
      refine ⟨by omega, h2, h3, fun j h5 h6 => ?_⟩
      by_cases e : j = i
      · subst e; exact hp
      · exact h4 j (by omega) h6
    · rw [rn_stop (fun w => hp w.2)]
      exact ⟨Nat.le_refl _, hi, fun _ => by simpa using hp, fun j h1 h2 => by omega⟩
theorem rn_bd {P : Int32 → Bool} {n i : Nat} {T : Stk} (h : i ≤ n) : i ≤ rn P n T i ∧ rn P n T i ≤ n ∧ (rn P n T i < n → P (T (rn P n T i)) = false) ∧ ∀ j, i ≤ j → j < rn P n T i → P (T j) = true := rn_bd' _ i rfl h
def cBl (b : Int32) : Bool := decide (b = 32) || decide (b = 10)
def cLt (b : Int32) : Bool := decide (97 ≤ b.toInt) && decide (b.toInt ≤ 122)
def cDg (b : Int32) : Bool := decide (48 ≤ b.toInt) && decide (b.toInt ≤ 57)
def cSg (b : Int32) : Bool := decide (b = 40) || decide (b = 41) || decide (b = 59) || decide (b = 43) || decide (b = 45) || decide (b = 42) || decide (b = 60) || decide (b = 61)
theorem cLt_iff {b : Int32} : cLt b = true ↔ 97 ≤ b.toInt ∧ b.toInt ≤ 122 := by simp [cLt]
theorem cDg_iff {b : Int32} : cDg b = true ↔ 48 ≤ b.toInt ∧ b.toInt ≤ 57 := by simp [cDg]
theorem fR_isLetter_eq (b : Int32) (M : Mem) : fR_isLetter b M = some (bz (cLt b = true), M) := by
  unfold fR_isLetter
  simp only [i_lt, show (97 : Int32).toInt = 97 from rfl, show (122 : Int32).toInt = 122 from rfl]
  by_cases h1 : b.toInt < 97
  · rw [if_pos h1, bz, if_neg (by rw [cLt_iff]; omega)]
  · rw [if_neg h1]
    by_cases h2 : 122 < b.toInt
    · rw [if_pos h2, bz, if_neg (by rw [cLt_iff]; omega)]
    · rw [if_neg h2, bz, if_pos (by rw [cLt_iff]; omega)]
theorem fR_isDigit_eq (b : Int32) (M : Mem) : fR_isDigit b M = some (bz (cDg b = true), M) := by
  unfold fR_isDigit
  simp only [i_lt, show (48 : Int32).toInt = 48 from rfl, show (57 : Int32).toInt = 57 from rfl]
  by_cases h1 : b.toInt < 48
  · rw [if_pos h1, bz, if_neg (by rw [cDg_iff]; omega)]
  · rw [if_neg h1]
    by_cases h2 : 57 < b.toInt
    · rw [if_pos h2, bz, if_neg (by rw [cDg_iff]; omega)]
    · rw [if_neg h2, bz, if_pos (by rw [cDg_iff]; omega)]
theorem fR_isSign_eq (b : Int32) (M : Mem) : fR_isSign b M = some (bz (cSg b = true), M) := by
  unfold fR_isSign fR_isSign_b48 cSg
  by_cases h1 : b = 40
  · simp [h1]
  by_cases h2 : b = 41
  · simp [h2]
  by_cases h3 : b = 59
  · simp [h3]
  by_cases h4 : b = 43
  · simp [h4]
  by_cases h5 : b = 45
  · simp [h5]
  by_cases h6 : b = 42
  · simp [h6]
  by_cases h7 : b = 60
  · simp [h7]
  by_cases h8 : b = 61
  · simp [h8]
  simp [h1, h2, h3, h4, h5, h6, h7, h8]
theorem fM_inLt (b : Int32) (N : Mem) : fM_in b.toInt64 (97 : Int64) (122 : Int64) N = some (bz (cLt b = true), N) := by
  rw [fM_in_eq, t64]
  exact congrArg (fun x => some (x, N)) (bz_iff (by rw [cLt_iff, show (97 : Int64).toInt = 97 from rfl, show (122 : Int64).toInt = 122 from rfl]))
theorem fM_inDg (b : Int32) (N : Mem) : fM_in b.toInt64 (48 : Int64) (57 : Int64) N = some (bz (cDg b = true), N) := by
  rw [fM_in_eq, t64]
  exact congrArg (fun x => some (x, N)) (bz_iff (by rw [cDg_iff, show (48 : Int64).toInt = 48 from rfl, show (57 : Int64).toInt = 57 from rfl]))
theorem nI_subm {a b : Nat} (h : b ≤ a) : nI a - nI b = nI (a - b) := by
  have : nI a = nI (a - b) + nI b := by rw [nI_add, Nat.sub_add_cancel h]
  rw [this, Int32.add_sub_cancel]
/-! words -/
abbrev chrW (i : Nat) : Int32 := (txByt.getD 1 []).getD i 0
def wtab : List (Nat × Nat) := [(0, 6), (7, 11), (12, 16), (17, 23), (24, 30), (31, 36), (37, 42), (43, 47), (48, 53), (54, 56), (57, 60), (61, 64)]
def onT (T : Stk) (a s : Nat) : Nat → Nat → Bool
  | 0, _ => true
  | c + 1, x => decide (chrW x = T (a + (x - s))) && onT T a s c (x + 1)
def mtB (T : Stk) (a e : Nat) (q : Nat × Nat) : Bool := decide (e - a = q.2 - q.1) && onT T a q.1 (q.2 - q.1) q.1
def wdL (T : Stk) (a e : Nat) : List (Nat × Nat) → Nat → Nat
  | [], _ => 14
  | q :: r, w => if mtB T a e q = true then w else wdL T a e r (w + 1)
def wdT (T : Stk) (a e : Nat) : Nat := wdL T a e wtab 0
theorem onT_iff {T : Stk} {a s : Nat} : ∀ (c x : Nat), s ≤ x → (onT T a s c x = true ↔ ∀ j, j < c → chrW (x + j) = T (a + (x + j - s)))
  | 0, x, _ => ⟨fun _ j h => by omega, fun _ => rfl⟩
  | c + 1, x, hx => by
    rw [onT, Bool.and_eq_true, decide_eq_true_eq, onT_iff c (x + 1) (by omega)]
    constructor
    · intro h j hj
      by_cases e : j = 0
      · subst e; exact h.1
      · have := h.2 (j - 1) (by omega)
        rw [show x + 1 + (j - 1) = x + j by omega] at this
        exact this
    · intro h
      refine ⟨h 0 (by omega), fun j hj => ?_⟩
      have := h (j + 1) (by omega)
      rw [show x + (j + 1) = x + 1 + j by omega] at this
      exact this
theorem mtB_q {T : Stk} {a e : Nat} {q : Nat × Nat} : mtB T a e q = true ↔ e - a = q.2 - q.1 ∧ ∀ j, j < q.2 - q.1 → chrW (q.1 + j) = T (a + j) := by
  unfold mtB
  rw [Bool.and_eq_true, decide_eq_true_eq, onT_iff _ _ (Nat.le_refl _)]
  simp only [Nat.add_sub_cancel_left]
theorem mtB_iff {T : Stk} {a e s t : Nat} : mtB T a e (s, t) = true ↔ e - a = t - s ∧ ∀ j, j < t - s → chrW (s + j) = T (a + j) := mtB_q
theorem fR_isOnTape_b2_eq {T : Stk} {n a s t : Nat} {M : Mem} (hn : n ≤ 160) (hT : ∀ i, i < n → M 41 i = T i) (ha : M 40 2 = nI a) (ht : t ≤ 65) (hb : a + (t - s) ≤ n) : ∀ (c x z : Nat), s ≤ x → x + c = t → c < z → fR_isOnTape_b2 (nI s) (nI t) z (nI x) M = some (bz (onT T a s c x = true), M) := by
  intro c
  induction c with
  | zero =>
    intro x z hs hx hz
    obtain ⟨z, rfl⟩ := Nat.exists_eq_succ_of_ne_zero (show z ≠ 0 by omega)
    rw [fR_isOnTape_b2, if_pos (by rw [n_le (by omega) (by omega)]; omega), onT]
    rfl
  | succ c ih =>
    intro x z hs hx hz
    obtain ⟨z, rfl⟩ := Nat.exists_eq_succ_of_ne_zero (show z ≠ 0 by omega)
    rw [fR_isOnTape_b2, if_neg (by rw [n_le (by omega) (by omega)]; omega), if_pos (ib_nI (by omega) (by omega)), ha, nI_add, nI_subm (by omega), if_pos (ib_nI (by omega) (by omega)), ix_nI (by omega), ix_nI (by omega), hT _ (by omega), nI_1, ih (x + 1) z (by omega) (by omega) (by omega), onT]
    rw [show a + x - s = a + (x - s) by omega]
    by_cases h : (txByt.getD 1 []).getD x 0 = T (a + (x - s))
    · rw [if_pos h, show decide (chrW x = T (a + (x - s))) = true from decide_eq_true h, Bool.true_and]
    · rw [if_neg h, show decide (chrW x = T (a + (x - s))) = false from decide_eq_false h, Bool.false_and]
      rfl
theorem wot_nb {M : Mem} {w s : Int32} {i z : Nat} (hi : i < 65) (h : chrW i ≠ 32) : fR_wordOnTape_b6 (z + 1) w s (nI i) M = fR_wordOnTape_b6 z w s (nI (i + 1)) M := by
  rw [fR_wordOnTape_b6, if_neg (by rw [show Int32.ofNat (txLen.getD 1 0) = nI 65 from rfl, n_le (by omega) (by omega)]; omega), if_pos (ib_nI hi (by omega)), ix_nI (by omega), if_neg h, fR_wordOnTape_b59, nI_1]
theorem wot_run {M : Mem} {w s : Int32} : ∀ (c i z : Nat), i + c ≤ 65 → (∀ j, j < c → chrW (i + j) ≠ 32) → fR_wordOnTape_b6 (z + c) w s (nI i) M = fR_wordOnTape_b6 z w s (nI (i + c)) M
  | 0, i, z, _, _ => rfl
  | c + 1, i, z, h1, h2 => by
    rw [← Nat.add_assoc, wot_nb (i := i) (by omega) (h2 0 (by omega)), wot_run c (i + 1) z (by omega) (fun j hj => by
      have := h2 (j + 1) (by omega)
      rw [show i + (j + 1) = i + 1 + j by omega] at this
      exact this), show i + 1 + c = i + (c + 1) by omega]
theorem wot_word {T : Stk} {n a e s t w z : Nat} {M : Mem} (hn : n ≤ 160) (hT : ∀ i, i < n → M 41 i = T i) (ha : M 40 2 = nI a) (he : M 40 3 = nI e) (hae : a ≤ e) (hen : e ≤ n) (hst : s ≤ t) (ht : t < 65) (h1 : ∀ j, j < t - s → chrW (s + j) ≠ 32) (h2 : chrW t = 32) : fR_wordOnTape_b6 (z + 1 + (t - s)) (nI w) (nI s) (nI s) M = if mtB T a e (s, t) = true then some (nI w, M) else fR_wordOnTape_b6 z (nI (w + 1)) (nI (t + 1)) (nI (t + 1)) M := by
  rw [wot_run (t - s) s (z + 1) (by omega) h1, show s + (t - s) = t by omega, fR_wordOnTape_b6, if_neg (by rw [show Int32.ofNat (txLen.getD 1 0) = nI 65 from rfl, n_le (by omega) (by omega)]; omega), if_pos (ib_nI ht (by omega)), ix_nI (by omega), if_pos h2, nI_subm hst, ha, he, nI_subm hae, fR_wordOnTape_b52, fR_wordOnTape_b59, nI_1, nI_1]
  unfold mtB
  by_cases hl : t - s = e - a
  · rw [if_pos (by rw [hl]), fR_isOnTape, fR_isOnTape_b2_eq hn hT ha (by omega) (by omega) (t - s) s 1000 (Nat.le_refl _) (by omega) (by omega)]
    simp only [Option.bind_some, bz_0]
    by_cases ho : onT T a s (t - s) s = true
    · rw [if_neg (fun k => k ho), if_pos (by simp [hl.symm, ho])]
    · rw [if_pos ho, if_neg (by simp [ho]), fR_wordOnTape_b52, fR_wordOnTape_b59, nI_1, nI_1]
  · rw [if_neg (by rw [n_eq (by omega) (by omega)]; exact hl), if_neg (by simp; intro k; omega)]
def okW : Nat → List (Nat × Nat) → Bool
  | s, [] => decide (s = 65)
  | s, q :: r => decide (q.1 = s) && decide (s ≤ q.2) && decide (q.2 < 65) && (List.range (q.2 - s)).all (fun j => decide (chrW (s + j) ≠ 32)) && decide (chrW q.2 = 32) && okW (q.2 + 1) r
theorem wot_list {T : Stk} {n a e : Nat} {M : Mem} (hn : n ≤ 160) (hT : ∀ i, i < n → M 41 i = T i) (ha : M 40 2 = nI a) (he : M 40 3 = nI e) (hae : a ≤ e) (hen : e ≤ n) : ∀ (l : List (Nat × Nat)) (w s z : Nat), okW s l = true → fR_wordOnTape_b6 (z + 1 + (65 - s)) (nI w) (nI s) (nI s) M = some (nI (wdL T a e l w), M)
  | [], w, s, z, h => by
    have : s = 65 := by simpa [okW] using h
    subst this
    rw [show z + 1 + (65 - 65) = z + 1 by omega, fR_wordOnTape_b6, if_pos (by rw [show Int32.ofNat (txLen.getD 1 0) = nI 65 from rfl]; rw [n_le (by omega) (by omega)]; omega)]
    rfl
  | (p, t) :: r, w, s, z, h => by
    rw [okW] at h
    simp only [Bool.and_eq_true, decide_eq_true_eq, List.all_eq_true, List.mem_range] at h
    obtain ⟨⟨⟨⟨⟨h1, h2⟩, h3⟩, h4⟩, h5⟩, h6⟩ := h
    subst h1
    rw [show z + 1 + (65 - p) = (z + 1 + (65 - (t + 1))) + 1 + (t - p) by omega, wot_word hn hT ha he hae hen h2 h3 h4 h5, wdL]
    by_cases hm : mtB T a e (p, t) = true
    · rw [if_pos hm, if_pos hm]
    · rw [if_neg hm, if_neg hm]
      exact wot_list hn hT ha he hae hen r (w + 1) (t + 1) z h6
theorem fR_wordOnTape_eq {T : Stk} {n a e : Nat} {M : Mem} (hn : n ≤ 160) (hT : ∀ i, i < n → M 41 i = T i) (ha : M 40 2 = nI a) (he : M 40 3 = nI e) (hae : a ≤ e) (hen : e ≤ n) : fR_wordOnTape M = some (nI (wdT T a e), M) := by
  have := wot_list hn hT ha he hae hen wtab 0 0 934 (by decide +kernel)
  exact this
theorem wdL_sp {T : Stk} {a e : Nat} : ∀ (l : List (Nat × Nat)) (w : Nat), w + l.length ≤ 14 → (wdL T a e l w = 14 ∧ ∀ i, i < l.length → mtB T a e (l.getD i (0, 0)) = false) ∨ ∃ i, i < l.length ∧ wdL T a e l w = w + i ∧ mtB T a e (l.getD i (0, 0)) = true
  | [], w, _ => Or.inl ⟨rfl, fun i h => absurd h (by simp)⟩
  | q :: r, w, h => by
    rw [List.length_cons] at h
    rw [wdL]
    by_cases hm : mtB T a e q = true
    · rw [if_pos hm]
      exact Or.inr ⟨0, by simp, rfl, hm⟩
    · rw [if_neg hm]
      rcases wdL_sp r (w + 1) (by omega) with ⟨h1, h2⟩ | ⟨i, h1, h2, h3⟩
      · refine Or.inl ⟨h1, fun i hi => ?_⟩
        cases i with
        | zero => simpa using hm
        | succ i => exact h2 i (by simpa using hi)
      · exact Or.inr ⟨i + 1, by simpa using h1, by omega, h3⟩
theorem wd_diff : ∀ i, i < 12 → ∀ j, j < 12 → i ≠ j → ((wtab.getD i (0, 0)).2 - (wtab.getD i (0, 0)).1 ≠ (wtab.getD j (0, 0)).2 - (wtab.getD j (0, 0)).1 ∨ ∃ k, k < (wtab.getD i (0, 0)).2 - (wtab.getD i (0, 0)).1 ∧ chrW ((wtab.getD i (0, 0)).1 + k) ≠ chrW ((wtab.getD j (0, 0)).1 + k)) := by decide +kernel
theorem wd_iff {T : Stk} {a e w : Nat} (hw : w < 12) : wdT T a e = w ↔ mtB T a e (wtab.getD w (0, 0)) = true := by
  have hl : wtab.length = 12 := rfl
  rcases wdL_sp (T := T) (a := a) (e := e) wtab 0 (by decide) with ⟨h1, h2⟩ | ⟨i, h1, h2, h3⟩
  · unfold wdT
    rw [h1, h2 w (by omega)]
    constructor
    · intro z; omega
    · intro z; cases z
  · unfold wdT
    rw [h2, Nat.zero_add]
    constructor
    · intro z; rw [← z]; exact h3
    · intro z
      refine Classical.byContradiction (fun hne => ?_)
      rw [hl] at h1
      have e1 := mtB_q.mp h3
      have e2 := mtB_q.mp z
      rcases wd_diff i h1 w hw hne with d | ⟨k, d1, d2⟩
      · omega
      · exact d2 ((e1.2 k d1).trans (e2.2 k (by omega)).symm)
theorem wd_bd {T : Stk} {a e : Nat} : wdT T a e < 12 ∨ wdT T a e = 14 := by
  rcases wdL_sp (T := T) (a := a) (e := e) wtab 0 (by decide) with ⟨h1, h2⟩ | ⟨i, h1, h2, h3⟩
  · exact Or.inr h1
  · left
    unfold wdT
    rw [h2]
    have hl : wtab.length = 12 := rfl
    omega
/-! the model's bytes and words -/
def NB (n t : Nat) (T : Stk) (N : Mem) : Prop := (t < 6 ∧ n ≤ 160) ∧ N 85 27 = nI (160 * t) ∧ N 85 28 = nI n ∧ ∀ i, i < n → N 86 (160 * t + i) = T i
theorem fM_byteAt_eq {n t : Nat} {T : Stk} {N : Mem} (h : NB n t T N) {i : Nat} (hi : i < 1000) : fM_byteAt (nI i) N = some (if i < n then T i else -1, N) := by
  obtain ⟨⟨h1, h1'⟩, h2, h3, h4⟩ := h
  unfold fM_byteAt
  rw [h3]
  by_cases hc : i < n
  · rw [if_neg (by rw [n_le (by omega) (by omega)]; omega), h2, nI_add, if_pos (ib_nI (by omega) (by omega)), ix_nI (by omega), h4 i hc, if_pos hc]
  · rw [if_pos (by rw [n_le (by omega) (by omega)]; omega), if_neg hc]
def isL (T : Stk) (a e i : Nat) (c : Int32) : Bool := if a + i < e then decide (T (a + i) = c) else decide (c = 0)
theorem fM_isLetter_eq {n t a e : Nat} {T : Stk} {N : Mem} (h : NB n t T N) (ha : N 85 31 = nI a) (he : N 85 29 = nI e) (hen : e ≤ n) (hae : a ≤ e) {i : Nat} (hi : i < 10) (c : Int32) : fM_isLetter (nI i) c N = some (bz (isL T a e i c = true), N) := by
  have hn := h.1.2
  unfold fM_isLetter isL
  rw [ha, he, nI_add]
  by_cases hc : a + i < e
  · rw [if_neg (by rw [n_le (by omega) (by omega)]; omega), fM_byteAt_eq h (by omega), if_pos hc, if_pos (by omega)]
    simp only [Option.bind_some]
    by_cases hd : T (a + i) = c
    · rw [if_pos hd]; simp [hd]
    · rw [if_neg hd]; simp [hd]
  · rw [if_pos (by rw [n_le (by omega) (by omega)]; omega), if_neg hc]
    by_cases hd : c = 0
    · rw [if_pos hd]; simp [hd]
    · rw [if_neg hd]; simp [hd]
def isW (T : Stk) (a e : Nat) (c0 c1 c2 c3 c4 c5 c6 c7 : Int32) : Bool := decide (e ≤ a + 8) && (isL T a e 0 c0 && (isL T a e 1 c1 && (isL T a e 2 c2 && (isL T a e 3 c3 && (isL T a e 4 c4 && (isL T a e 5 c5 && (isL T a e 6 c6 && isL T a e 7 c7)))))))
theorem fM_isWord_eq {n t a e : Nat} {T : Stk} {N : Mem} (h : NB n t T N) (hb : N 85 34 = 0) (hk : N 85 30 = 1) (ha : N 85 31 = nI a) (he : N 85 29 = nI e) (hen : e ≤ n) (hae : a ≤ e) (c0 c1 c2 c3 c4 c5 c6 c7 : Int32) : fM_isWord c0 c1 c2 c3 c4 c5 c6 c7 N = some (bz (isW T a e c0 c1 c2 c3 c4 c5 c6 c7 = true), N) := by
  have hn := h.1.2
  have L : ∀ (i : Nat) (c : Int32), i < 10 → fM_isLetter (nI i) c N = some (bz (isL T a e i c = true), N) := fun i c hi => fM_isLetter_eq h ha he hen hae hi c
  unfold fM_isWord isW
  rw [if_pos hb, if_pos hk, ha, he, show (8 : Int32) = nI 8 from rfl, nI_add]
  by_cases h8 : a + 8 < e
  · rw [if_pos (by rw [n_lt (by omega) (by omega)]; exact h8), bz, if_neg (by simp; intro k; omega)]
  · rw [if_neg (by rw [n_lt (by omega) (by omega)]; exact h8), show decide (e ≤ a + 8) = true from by simp; omega]
    rw [show (0 : Int32) = nI 0 from rfl, show (1 : Int32) = nI 1 from rfl, show (2 : Int32) = nI 2 from rfl, show (3 : Int32) = nI 3 from rfl, show (4 : Int32) = nI 4 from rfl, show (5 : Int32) = nI 5 from rfl, show (6 : Int32) = nI 6 from rfl, show (7 : Int32) = nI 7 from rfl]
    simp only [L _ _ (show 0 < 10 by omega), L _ _ (show 1 < 10 by omega), L _ _ (show 2 < 10 by omega), L _ _ (show 3 < 10 by omega), L _ _ (show 4 < 10 by omega), L _ _ (show 5 < 10 by omega), L _ _ (show 6 < 10 by omega), L _ _ (show 7 < 10 by omega), Option.bind_some, Bool.true_and]
    rw [show nI 0 = (0 : Int32) from rfl, show nI 1 = (1 : Int32) from rfl]
    cases isL T a e 0 c0 <;> simp only [bz, Bool.true_and, Bool.false_and, if_true, if_false, Bool.false_eq_true, reduceCtorEq, show ¬ (1 : Int32) = 0 by decide]
    cases isL T a e 1 c1 <;> simp only [bz, Bool.true_and, Bool.false_and, if_true, if_false, Bool.false_eq_true, reduceCtorEq, show ¬ (1 : Int32) = 0 by decide]
    cases isL T a e 2 c2 <;> simp only [bz, Bool.true_and, Bool.false_and, if_true, if_false, Bool.false_eq_true, reduceCtorEq, show ¬ (1 : Int32) = 0 by decide]
    cases isL T a e 3 c3 <;> simp only [bz, Bool.true_and, Bool.false_and, if_true, if_false, Bool.false_eq_true, reduceCtorEq, show ¬ (1 : Int32) = 0 by decide]
    cases isL T a e 4 c4 <;> simp only [bz, Bool.true_and, Bool.false_and, if_true, if_false, Bool.false_eq_true, reduceCtorEq, show ¬ (1 : Int32) = 0 by decide]
    cases isL T a e 5 c5 <;> simp only [bz, Bool.true_and, Bool.false_and, if_true, if_false, Bool.false_eq_true, reduceCtorEq, show ¬ (1 : Int32) = 0 by decide]
    cases isL T a e 6 c6 <;> simp only [bz, Bool.true_and, Bool.false_and, if_true, if_false, Bool.false_eq_true, reduceCtorEq, show ¬ (1 : Int32) = 0 by decide]
    cases isL T a e 7 c7 <;> simp only [bz, Bool.true_and, Bool.false_and, if_true, if_false, Bool.false_eq_true, reduceCtorEq, show ¬ (1 : Int32) = 0 by decide]
theorem isL_iff {T : Stk} {a e i : Nat} {c : Int32} : isL T a e i c = true ↔ (a + i < e ∧ T (a + i) = c) ∨ (e ≤ a + i ∧ c = 0) := by
  unfold isL
  by_cases h : a + i < e
  · rw [if_pos h, decide_eq_true_eq]
    constructor
    · intro z; exact Or.inl ⟨h, z⟩
    · rintro (z | z)
      · exact z.2
      · omega
  · rw [if_neg h, decide_eq_true_eq]
    constructor
    · intro z; exact Or.inr ⟨by omega, z⟩
    · rintro (z | z)
      · omega
      · exact z.2
/-- letter i of the word at q -/
abbrev cw (q : Nat × Nat) (i : Nat) : Int32 := if i < q.2 - q.1 then chrW (q.1 + i) else 0
theorem isW_mt {T : Stk} {a e s t : Nat} (hae : a ≤ e) (hL : ∀ i, a ≤ i → i < e → cLt (T i) = true) (hl : t - s ≤ 8) (hc : ∀ i, i < t - s → chrW (s + i) ≠ 0) : isW T a e (cw (s, t) 0) (cw (s, t) 1) (cw (s, t) 2) (cw (s, t) 3) (cw (s, t) 4) (cw (s, t) 5) (cw (s, t) 6) (cw (s, t) 7) = mtB T a e (s, t) := by
  have hz : ∀ i, a ≤ i → i < e → T i ≠ 0 := by
    intro i h1 h2 w
    have := cLt_iff.mp (hL i h1 h2)
    rw [w, show (0 : Int32).toInt = 0 from rfl] at this
    omega
  have key : isW T a e (cw (s, t) 0) (cw (s, t) 1) (cw (s, t) 2) (cw (s, t) 3) (cw (s, t) 4) (cw (s, t) 5) (cw (s, t) 6) (cw (s, t) 7) = true ↔ (e ≤ a + 8 ∧ ∀ i, i < 8 → isL T a e i (cw (s, t) i) = true) := by
    unfold isW
    simp only [Bool.and_eq_true, decide_eq_true_eq]
    constructor
    · rintro ⟨h, g0, g1, g2, g3, g4, g5, g6, g7⟩
      refine ⟨h, fun i hi => ?_⟩
      rcases (by omega : i = 0 ∨ i = 1 ∨ i = 2 ∨ i = 3 ∨ i = 4 ∨ i = 5 ∨ i = 6 ∨ i = 7) with rfl | rfl | rfl | rfl | rfl | rfl | rfl | rfl
      all_goals assumption
    · rintro ⟨h, g⟩
      exact ⟨h, g 0 (by omega), g 1 (by omega), g 2 (by omega), g 3 (by omega), g 4 (by omega), g 5 (by omega), g 6 (by omega), g 7 (by omega)⟩
  rw [Bool.eq_iff_iff, key, mtB_iff]
  constructor
  · rintro ⟨h8, g⟩
    have hlen : e - a = t - s := by
      refine Classical.byContradiction (fun hne => ?_)
      by_cases hlt : e - a < t - s
      · have := isL_iff.mp (g (e - a) (by omega))
        rw [cw, if_pos (by exact hlt)] at this
        rcases this with z | z
        · omega
        · exact hc _ hlt z.2
      · have := isL_iff.mp (g (t - s) (by omega))
        rw [cw, if_neg (by show ¬ t - s < t - s; omega)] at this
        rcases this with z | z
        · exact hz _ (by omega) (by omega) z.2
        · omega
    refine ⟨hlen, fun j hj => ?_⟩
    have := isL_iff.mp (g j (by omega))
    rw [cw, if_pos (by exact hj)] at this
    rcases this with z | z
    · exact z.2.symm
    · omega
  · rintro ⟨h1, h2⟩
    refine ⟨by omega, fun i hi => isL_iff.mpr ?_⟩
    by_cases h : i < t - s
    · left
      rw [cw, if_pos (by exact h)]
      exact ⟨by omega, (h2 i h).symm⟩
    · right
      rw [cw, if_neg (by exact h)]
      exact ⟨by omega, rfl⟩
theorem wtab_ok : ∀ w, w < 12 → (wtab.getD w (0, 0)).2 - (wtab.getD w (0, 0)).1 ≤ 8 ∧ ∀ i, i < (wtab.getD w (0, 0)).2 - (wtab.getD w (0, 0)).1 → chrW ((wtab.getD w (0, 0)).1 + i) ≠ 0 := by decide +kernel
end
section
/-! 32: a step ahead, in the class and in the model -/
def endT (n : Nat) (T : Stk) (a : Nat) : Nat := if a < n then (if cLt (T a) = true then rn cLt n T a else if cDg (T a) = true then rn cDg n T a else if cSg (T a) = true then a + 1 else a) else a
def tokC (n : Nat) (T : Stk) (a : Nat) : Int32 := if a < n then (if cLt (T a) = true then nI (wdT T a (rn cLt n T a)) else if cDg (T a) = true then (if rn cDg n T a - a ≤ 4 then 12 else 14) else if cSg (T a) = true then T a else 14) else 13
def kndT (n : Nat) (T : Stk) (a : Nat) : Int32 := if a < n then (if cLt (T a) = true then 1 else if cDg (T a) = true then (if rn cDg n T a - a ≤ 4 then 2 else 4) else if cSg (T a) = true then 3 else 4) else 0
def numC (T : Stk) : Nat → Nat → Int32 → Int32
  | 0, _, x => x
  | c + 1, j, x => numC T c (j + 1) (x * 10 + T j - 48)
def numL (T : Stk) : Nat → Nat → Int64 → Int64
  | 0, _, x => x
  | c + 1, j, x => numL T c (j + 1) (10 * x + (T j).toInt64 - 48)
def numT (n : Nat) (T : Stk) (a : Nat) : Int32 := numC T (rn cDg n T a - a) a 0
def TC (n : Nat) (T : Stk) (M : Mem) : Prop := M 40 1 = nI n ∧ n ≤ 160 ∧ ∀ i, i < n → M 41 i = T i
def CS (n : Nat) (T : Stk) (M : Mem) (a w : Nat) : Prop := TC n T M ∧ a ≤ n ∧ M 40 2 = nI a ∧ M 40 3 = nI (endT n T a) ∧ M 40 4 = tokC n T a ∧ (tokC n T a = 12 → M 40 5 = numT n T a) ∧ M 40 6 = (if tokC n T a = 14 then nI a else -1) ∧ M 40 9 = nI w
def KA (M N : Mem) : Prop := (∀ a, a ≠ 40 → N a = M a) ∧ ∀ j, (j < 2 ∨ 6 < j) → N 40 j = M 40 j
theorem KA.trans {M N O : Mem} (a : KA M N) (b : KA N O) : KA M O := ⟨fun x h => (b.1 x h).trans (a.1 x h), fun j h => (b.2 j h).trans (a.2 j h)⟩
theorem KA.put {M : Mem} {j : Nat} {v : Int32} (h : 2 ≤ j ∧ j ≤ 6) : KA M (wr M 40 j v) := ⟨fun a ha => wr_ne ha, fun i hi => wr_at (by omega)⟩
theorem TC.ka {n : Nat} {T : Stk} {M N : Mem} (h : TC n T M) (k : KA M N) : TC n T N := ⟨by rw [k.2 1 (by omega)]; exact h.1, h.2.1, fun i hi => by rw [k.1 41 (by decide)]; exact h.2.2 i hi⟩
theorem wr_cc {M : Mem} {k j i : Nat} {v w : Int32} (h : j ≠ i) : wr (wr M k j v) k i w = wr (wr M k i w) k j v := by
  funext a b
  unfold wr
  by_cases h1 : a = k ∧ b = i
  · rw [if_pos h1, if_neg (by omega), if_pos h1]
  · rw [if_neg h1, if_neg h1]
theorem fR_takeWord_b0_eq {n : Nat} {T : Stk} : ∀ (c j z : Nat) (M : Mem), TC n T M → M 40 3 = nI j → j ≤ n → n - j = c → c < z → fR_takeWord_b0 z M = fR_takeWord_b39 (wr M 40 3 (nI (rn cLt n T j))) := by
  intro c
  induction c with
  | zero =>
    intro j z M h h3 hj hc hz
    have hn := h.2.1
    obtain ⟨z, rfl⟩ := Nat.exists_eq_succ_of_ne_zero (show z ≠ 0 by omega)
    rw [rn_stop (by omega), ← h3, wr_self, fR_takeWord_b0, h.1, h3, if_pos (by rw [n_le (by omega) (by omega)]; omega)]
  | succ c ih =>
    intro j z M h h3 hj hc hz
    have hn := h.2.1
    obtain ⟨z, rfl⟩ := Nat.exists_eq_succ_of_ne_zero (show z ≠ 0 by omega)
    rw [fR_takeWord_b0, h.1, h3, if_neg (by rw [n_le (by omega) (by omega)]; omega), if_pos (ib_nI (by omega) (by omega)), ix_nI (by omega), h.2.2 j (by omega), fR_isLetter_eq]
    simp only [Option.bind_some, bz_0]
    by_cases hl : cLt (T j) = true
    · rw [if_neg (fun k => k hl), h3, nI_1, rn_go (by omega) hl, ih (j + 1) z _ (h.ka (KA.put (by omega))) wr_same (by omega) (by omega) (by omega), wr_wr]
    · rw [if_pos hl, rn_stop (fun k => hl k.2), ← h3, wr_self]
theorem fR_takeNumber_b5_eq {n : Nat} {T : Stk} : ∀ (c j z : Nat) (M : Mem), TC n T M → M 40 3 = nI j → j ≤ n → n - j = c → c < z → fR_takeNumber_b5 z M = fR_takeNumber_b68 (wr (wr M 40 5 (numC T (rn cDg n T j - j) j (M 40 5))) 40 3 (nI (rn cDg n T j))) := by
  intro c
  induction c with
  | zero =>
    intro j z M h h3 hj hc hz
    have hn := h.2.1
    obtain ⟨z, rfl⟩ := Nat.exists_eq_succ_of_ne_zero (show z ≠ 0 by omega)
    rw [rn_stop (by omega), Nat.sub_self, numC, wr_self, ← h3, wr_self, fR_takeNumber_b5, h.1, h3, if_pos (by rw [n_le (by omega) (by omega)]; omega)]
  | succ c ih =>
    intro j z M h h3 hj hc hz
    have hn := h.2.1
    obtain ⟨z, rfl⟩ := Nat.exists_eq_succ_of_ne_zero (show z ≠ 0 by omega)
    rw [fR_takeNumber_b5, h.1, h3, if_neg (by rw [n_le (by omega) (by omega)]; omega), if_pos (ib_nI (by omega) (by omega)), ix_nI (by omega), h.2.2 j (by omega), fR_isDigit_eq]
    simp only [Option.bind_some, bz_0]
    by_cases hl : cDg (T j) = true
    · have hb := (rn_bd (P := cDg) (n := n) (i := j + 1) (T := T) (by omega)).1
      rw [if_neg (fun k => k hl), h3, if_pos (ib_nI (by omega) (by omega)), ix_nI (by omega), h.2.2 j (by omega), wr_at (show 3 ≠ 5 by decide), h3, nI_1, rn_go (by omega) hl, ih (j + 1) z _ ((h.ka (KA.put (by omega))).ka (KA.put (by omega))) wr_same (by omega) (by omega) (by omega), wr_at (show 5 ≠ 3 by decide), wr_same, show rn cDg n T (j + 1) - j = (rn cDg n T (j + 1) - (j + 1)) + 1 by omega, numC, wr_cc (show 3 ≠ 5 by decide), wr_wr, wr_wr]
    · rw [if_pos hl, rn_stop (fun k => hl k.2), Nat.sub_self, numC, wr_self, ← h3, wr_self]
theorem tok14 {n : Nat} {T : Stk} {a : Nat} (hB : ∀ i, i < n → 0 ≤ (T i).toInt) (ha : a < n) (h1 : cLt (T a) = false) (h2 : cDg (T a) = false) (h3 : cSg (T a) = true) : T a ≠ 14 ∧ T a ≠ 12 ∧ T a ≠ 13 ∧ 40 ≤ (T a).toInt := by
  unfold cSg at h3
  simp only [Bool.or_eq_true, decide_eq_true_eq] at h3
  rcases h3 with (((((((h | h) | h) | h) | h) | h) | h) | h) <;> rw [h] <;> decide
theorem fR_advance_b52_eq {n : Nat} {T : Stk} {M : Mem} {a w : Nat} (hB : ∀ i, i < n → 0 ≤ (T i).toInt) (h : TC n T M) (h3 : M 40 3 = nI a) (ha : a ≤ n) (h6 : M 40 6 = -1) (h9 : M 40 9 = nI w) : ∃ M', fR_advance_b52 M = some M' ∧ CS n T M' a w ∧ KA M M' := by
  have hn := h.2.1
  unfold fR_advance_b52
  rw [h3]
  have k1 : KA M (wr M 40 2 (nI a)) := KA.put (by omega)
  have q1 : wr M 40 2 (nI a) 40 1 = nI n := by rw [wr_at (by decide)]; exact h.1
  have q2 : wr M 40 2 (nI a) 40 2 = nI a := wr_same
  have q3 : wr M 40 2 (nI a) 40 3 = nI a := by rw [wr_at (by decide)]; exact h3
  have q6 : wr M 40 2 (nI a) 40 6 = -1 := by rw [wr_at (by decide)]; exact h6
  have q9 : wr M 40 2 (nI a) 40 9 = nI w := by rw [wr_at (by decide)]; exact h9
  have qT := h.ka k1
  generalize wr M 40 2 (nI a) = N at *
  rw [q1, q2]
  by_cases hc : a < n
  · rw [if_pos (by rw [n_lt (by omega) (by omega)]; exact hc), if_pos (ib_nI (by omega) (by omega)), ix_nI (by omega), qT.2.2 a hc, fR_isLetter_eq]
    simp only [Option.bind_some, bz_0]
    by_cases hl : cLt (T a) = true
    · have hb := rn_bd (P := cLt) (n := n) (i := a) (T := T) (by omega)
      rw [if_neg (fun k => k hl), fR_takeWord, fR_takeWord_b0_eq (n - a) a 1000 N qT q3 (by omega) rfl (by omega), fR_takeWord_b39]
      have k2 : KA N (wr N 40 3 (nI (rn cLt n T a))) := KA.put (by omega)
      rw [fR_wordOnTape_eq hn (qT.ka k2).2.2 (by rw [wr_at (by decide)]; exact q2) wr_same hb.1 hb.2.1]
      simp only [Option.bind_some]
      rw [wr_same]
      have et : tokC n T a = nI (wdT T a (rn cLt n T a)) := by unfold tokC; rw [if_pos hc, if_pos hl]
      have ee : endT n T a = rn cLt n T a := by unfold endT; rw [if_pos hc, if_pos hl]
      have wb := wd_bd (T := T) (a := a) (e := rn cLt n T a)
      have n12 : ¬ tokC n T a = 12 := by
        rw [et, show (12 : Int32) = nI 12 from rfl, n_eq (by omega) (by omega)]; omega
      by_cases hw : nI (wdT T a (rn cLt n T a)) = 14
      · rw [if_pos hw]
        unfold fR_refuse fR_refuse_b16
        rw [wr_at (show 6 ≠ 4 by decide), wr_at (show 6 ≠ 3 by decide), q6, if_pos rfl, wr_at (show 2 ≠ 4 by decide), wr_at (show 2 ≠ 3 by decide), q2]
        simp only [Option.bind_some]
        refine ⟨_, rfl, ⟨?_, ha, ?_, ?_, ?_, fun z => absurd z n12, ?_, ?_⟩, ?_⟩
        · exact (((qT.ka (KA.put (by omega))).ka (KA.put (by omega))).ka (KA.put (by omega))).ka (KA.put (by omega))
        · simp [wr, q2]
        · simp [wr, ee]
        · rw [wr_same, et, hw]
        · rw [et, hw, if_pos rfl]; simp [wr]
        · simp [wr, q9]
        · exact ((((k1.trans (KA.put (by omega))).trans (KA.put (by omega))).trans (KA.put (by omega))).trans (KA.put (by omega)))
      · rw [if_neg hw]
        refine ⟨_, rfl, ⟨?_, ha, ?_, ?_, ?_, fun z => absurd z n12, ?_, ?_⟩, ?_⟩
        · exact (qT.ka (KA.put (by omega))).ka (KA.put (by omega))
        · simp [wr, q2]
        · simp [wr, ee]
        · rw [wr_same, et]
        · rw [et, if_neg hw]; simp [wr, q6]
        · simp [wr, q9]
        · exact (k1.trans (KA.put (by omega))).trans (KA.put (by omega))
    · rw [if_pos hl, q2, if_pos (ib_nI (by omega) (by omega)), ix_nI (by omega), qT.2.2 a hc, fR_isDigit_eq]
      simp only [Option.bind_some, bz_0]
      by_cases hd : cDg (T a) = true
      · have hb := rn_bd (P := cDg) (n := n) (i := a) (T := T) (by omega)
        rw [if_neg (fun k => k hd), fR_takeNumber, fR_takeNumber_b5_eq (n - a) a 1000 _ (qT.ka (KA.put (by omega))) (by rw [wr_at (by decide)]; exact q3) (by omega) rfl (by omega), fR_takeNumber_b68, wr_same, wr_wr]
        have et : tokC n T a = if rn cDg n T a - a ≤ 4 then 12 else 14 := by unfold tokC; rw [if_pos hc, if_neg hl, if_pos hd]
        have ee : endT n T a = rn cDg n T a := by unfold endT; rw [if_pos hc, if_neg hl, if_pos hd]
        rw [wr_at (show 3 ≠ 4 by decide), wr_same, wr_at (show 2 ≠ 4 by decide), wr_at (show 2 ≠ 3 by decide), wr_at (show 2 ≠ 5 by decide), q2, nI_subm hb.1]
        by_cases h4 : rn cDg n T a - a ≤ 4
        · rw [if_pos (by rw [show (4 : Int32) = nI 4 from rfl, n_le (by omega) (by omega)]; exact h4)]
          rw [if_pos h4] at et
          refine ⟨_, rfl, ⟨?_, ha, ?_, ?_, ?_, fun _ => ?_, ?_, ?_⟩, ?_⟩
          · exact ((qT.ka (KA.put (by omega))).ka (KA.put (by omega))).ka (KA.put (by omega))
          · simp [wr, q2]
          · simp [wr, ee]
          · rw [wr_same, et]
          · simp [wr]; rfl
          · rw [et, if_neg (by decide)]; simp [wr, q6]
          · simp [wr, q9]
          · exact ((k1.trans (KA.put (by omega))).trans (KA.put (by omega))).trans (KA.put (by omega))
        · rw [if_neg (by rw [show (4 : Int32) = nI 4 from rfl, n_le (by omega) (by omega)]; exact h4)]
          rw [if_neg h4] at et
          unfold fR_refuse fR_refuse_b16
          rw [wr_at (show 6 ≠ 4 by decide), wr_at (show 6 ≠ 3 by decide), wr_at (show 6 ≠ 5 by decide), q6, if_pos rfl, wr_at (show 2 ≠ 4 by decide), wr_at (show 2 ≠ 3 by decide), wr_at (show 2 ≠ 5 by decide), q2]
          simp only [Option.bind_some]
          refine ⟨_, rfl, ⟨?_, ha, ?_, ?_, ?_, fun z => ?_, ?_, ?_⟩, ?_⟩
          · exact ((((qT.ka (KA.put (by omega))).ka (KA.put (by omega))).ka (KA.put (by omega))).ka (KA.put (by omega))).ka (KA.put (by omega))
          · simp [wr, q2]
          · simp [wr, ee]
          · rw [wr_same, et]
          · rw [et] at z; exact absurd z (by decide)
          · rw [et, if_pos rfl]; simp [wr]
          · simp [wr, q9]
          · exact ((((k1.trans (KA.put (by omega))).trans (KA.put (by omega))).trans (KA.put (by omega))).trans (KA.put (by omega))).trans (KA.put (by omega))
      · rw [if_pos hd, q2, if_pos (ib_nI (by omega) (by omega)), ix_nI (by omega), qT.2.2 a hc, fR_isSign_eq]
        simp only [Option.bind_some, bz_0]
        by_cases hs : cSg (T a) = true
        · rw [if_neg (fun k => k hs), q2, if_pos (ib_nI (by omega) (by omega)), ix_nI (by omega), qT.2.2 a hc, wr_at (show 3 ≠ 4 by decide), q3, nI_1]
          have et : tokC n T a = T a := by unfold tokC; rw [if_pos hc, if_neg hl, if_neg hd, if_pos hs]
          have ee : endT n T a = a + 1 := by unfold endT; rw [if_pos hc, if_neg hl, if_neg hd, if_pos hs]
          have t14 := tok14 hB hc (by simpa using hl) (by simpa using hd) hs
          refine ⟨_, rfl, ⟨?_, ha, ?_, ?_, ?_, fun z => ?_, ?_, ?_⟩, ?_⟩
          · exact (qT.ka (KA.put (by omega))).ka (KA.put (by omega))
          · simp [wr, q2]
          · simp [wr, ee]
          · simp [wr, et]
          · rw [et] at z; exact absurd z t14.2.1
          · rw [et, if_neg t14.1]; simp [wr, q6]
          · simp [wr, q9]
          · exact (k1.trans (KA.put (by omega))).trans (KA.put (by omega))
        · rw [if_pos hs]
          have et : tokC n T a = 14 := by unfold tokC; rw [if_pos hc, if_neg hl, if_neg hd, if_neg hs]
          have ee : endT n T a = a := by unfold endT; rw [if_pos hc, if_neg hl, if_neg hd, if_neg hs]
          unfold fR_refuse fR_refuse_b16
          rw [q6, if_pos rfl, q2]
          simp only [Option.bind_some]
          refine ⟨_, rfl, ⟨?_, ha, ?_, ?_, ?_, fun z => ?_, ?_, ?_⟩, ?_⟩
          · exact (qT.ka (KA.put (by omega))).ka (KA.put (by omega))
          · simp [wr, q2]
          · simp [wr, ee, q3]
          · rw [wr_same, et]
          · rw [et] at z; exact absurd z (by decide)
          · rw [et, if_pos rfl]; simp [wr]
          · simp [wr, q9]
          · exact (k1.trans (KA.put (by omega))).trans (KA.put (by omega))
  · rw [if_neg (by rw [n_lt (by omega) (by omega)]; exact hc)]
    have et : tokC n T a = 13 := by unfold tokC; rw [if_neg hc]
    have ee : endT n T a = a := by unfold endT; rw [if_neg hc]
    refine ⟨_, rfl, ⟨?_, ha, ?_, ?_, ?_, fun z => ?_, ?_, ?_⟩, ?_⟩
    · exact qT.ka (KA.put (by omega))
    · simp [wr, q2]
    · simp [wr, ee, q3]
    · rw [wr_same, et]
    · rw [et] at z; exact absurd z (by decide)
    · rw [et, if_neg (by decide)]; simp [wr, q6]
    · simp [wr, q9]
    · exact k1.trans (KA.put (by omega))
theorem fR_advance_b0_eq {n : Nat} {T : Stk} : ∀ (c j z : Nat) (M : Mem), TC n T M → M 40 3 = nI j → j ≤ n → n - j = c → c < z → fR_advance_b0 z M = fR_advance_b52 (wr M 40 3 (nI (rn cBl n T j))) := by
  intro c
  induction c with
  | zero =>
    intro j z M h h3 hj hc hz
    have hn := h.2.1
    obtain ⟨z, rfl⟩ := Nat.exists_eq_succ_of_ne_zero (show z ≠ 0 by omega)
    rw [rn_stop (by omega), ← h3, wr_self, fR_advance_b0, h.1, h3, if_pos (by rw [n_le (by omega) (by omega)]; omega)]
  | succ c ih =>
    intro j z M h h3 hj hc hz
    have hn := h.2.1
    obtain ⟨z, rfl⟩ := Nat.exists_eq_succ_of_ne_zero (show z ≠ 0 by omega)
    rw [fR_advance_b0, h.1, h3, if_neg (by rw [n_le (by omega) (by omega)]; omega), if_pos (ib_nI (by omega) (by omega)), if_pos (ib_nI (by omega) (by omega)), ix_nI (by omega), h.2.2 j (by omega)]
    unfold fR_advance_b39
    rw [h3, nI_1]
    by_cases h1 : T j = 32
    · rw [if_pos h1, rn_go (by omega) (by simp [cBl, h1]), ih (j + 1) z _ (h.ka (KA.put (by omega))) wr_same (by omega) (by omega) (by omega), wr_wr]
    · rw [if_neg h1]
      by_cases h2 : T j = 10
      · rw [if_pos h2, rn_go (by omega) (by simp [cBl, h2]), ih (j + 1) z _ (h.ka (KA.put (by omega))) wr_same (by omega) (by omega) (by omega), wr_wr]
      · rw [if_neg h2, rn_stop (by simp [cBl, h1, h2]), ← h3, wr_self]
theorem fR_advance_eq {n : Nat} {T : Stk} {M : Mem} {b w : Nat} (hB : ∀ i, i < n → 0 ≤ (T i).toInt) (h : TC n T M) (h3 : M 40 3 = nI b) (hb : b ≤ n) (h6 : M 40 6 = -1) (h9 : M 40 9 = nI w) : ∃ M', fR_advance M = some M' ∧ CS n T M' (rn cBl n T b) w ∧ KA M M' := by
  have hn := h.2.1
  unfold fR_advance
  rw [fR_advance_b0_eq (n - b) b 1000 M h h3 hb rfl (by omega)]
  obtain ⟨M', e, c, k⟩ := fR_advance_b52_eq (M := wr M 40 3 (nI (rn cBl n T b))) hB (h.ka (KA.put (by omega))) wr_same (rn_bd hb).2.1 (by rw [wr_at (by decide)]; exact h6) (by rw [wr_at (by decide)]; exact h9)
  exact ⟨M', e, c, (KA.put (by omega)).trans k⟩
/-! the model -/
def KN (M N : Mem) : Prop := (∀ a, a ≠ 85 → N a = M a) ∧ ∀ j, (j < 29 ∨ (32 < j ∧ j ≠ 132)) → N 85 j = M 85 j
theorem KN.trans {M N O : Mem} (a : KN M N) (b : KN N O) : KN M O := ⟨fun x h => (b.1 x h).trans (a.1 x h), fun j h => (b.2 j h).trans (a.2 j h)⟩
theorem KN.rfl' {M : Mem} : KN M M := ⟨fun _ _ => rfl, fun _ _ => rfl⟩
theorem KN.put {M : Mem} {j : Nat} {v : Int32} (h : (29 ≤ j ∧ j ≤ 32) ∨ j = 132) : KN M (wr M 85 j v) := ⟨fun a ha => wr_ne ha, fun i hi => wr_at (by omega)⟩
theorem KN.r {M N : Mem} (a : KN M N) : KeepR M N := ⟨a.1, fun j h => a.2 j (by omega)⟩
theorem NB.kn {n t : Nat} {T : Stk} {M N : Mem} (h : NB n t T M) (k : KN M N) : NB n t T N := by
  unfold NB
  rw [k.2 27 (by omega), k.2 28 (by omega), k.1 86 (by decide)]
  exact h
def NS (n t : Nat) (T : Stk) (N : Mem) (a : Nat) (o : Int32) : Prop := NB n t T N ∧ N 85 31 = nI a ∧ N 85 29 = nI (endT n T a) ∧ N 85 30 = kndT n T a ∧ (kndT n T a = 2 → (lgc (N 85 132) (N 85 32)).toInt32 = numT n T a) ∧ (kndT n T a = 3 → lgc (N 85 132) (N 85 32) = (T a).toInt64) ∧ N 85 34 = 0 ∧ N 85 33 = o
theorem nx_run {n t : Nat} {T : Stk} : ∀ (c b z : Nat) (N : Mem), NB n t T N → N 85 29 = nI b → b + c ≤ n → (∀ j, b ≤ j → j < b + c → cBl (T j) = true) → fM_next_b0 (z + c) N = fM_next_b0 z (wr N 85 29 (nI (b + c)))
  | 0, b, z, N, h, h3, hc, hb => by rw [Nat.add_zero, Nat.add_zero, ← h3, wr_self]
  | c + 1, b, z, N, h, h3, hc, hb => by
    have hn := h.1.2
    have h0 := hb b (Nat.le_refl _) (by omega)
    have ih := nx_run c (b + 1) z (wr N 85 29 (nI (b + 1))) (h.kn (KN.put (by omega))) wr_same (by omega) (fun j h1 h2 => hb j (by omega) (by omega))
    rw [wr_wr, show b + 1 + c = b + (c + 1) by omega] at ih
    rw [← Nat.add_assoc, fM_next_b0, h3, fM_byteAt_eq h (by omega), if_pos (by omega)]
    simp only [Option.bind_some]
    unfold fM_next_b26
    rw [h3, nI_1]
    by_cases h1 : T b = 32
    · rw [if_pos h1]; exact ih
    · rw [if_neg h1, fM_byteAt_eq h (by omega), if_pos (by omega)]
      simp only [Option.bind_some]
      rw [if_pos (by simpa [cBl, h1] using h0), h3, nI_1]
      exact ih
theorem fM_next_b100_eq {n t : Nat} {T : Stk} : ∀ (c j z : Nat) (N : Mem), NB n t T N → N 85 29 = nI j → j ≤ n → n - j = c → c < z → fM_next_b100 z N = some (wr N 85 29 (nI (rn cLt n T j))) := by
  intro c
  induction c with
  | zero =>
    intro j z N h h3 hj hc hz
    have hn := h.1.2
    obtain ⟨z, rfl⟩ := Nat.exists_eq_succ_of_ne_zero (show z ≠ 0 by omega)
    rw [rn_stop (by omega), fM_next_b100, h3, fM_byteAt_eq h (by omega), if_neg (by omega)]
    simp only [Option.bind_some, fM_inLt, bz_0]
    rw [if_pos (by decide), ← h3, wr_self]
  | succ c ih =>
    intro j z N h h3 hj hc hz
    have hn := h.1.2
    obtain ⟨z, rfl⟩ := Nat.exists_eq_succ_of_ne_zero (show z ≠ 0 by omega)
    rw [fM_next_b100, h3, fM_byteAt_eq h (by omega), if_pos (by omega)]
    simp only [Option.bind_some, fM_inLt, bz_0]
    by_cases hl : cLt (T j) = true
    · rw [if_neg (fun k => k hl), h3, nI_1, rn_go (by omega) hl, ih (j + 1) z _ (h.kn (KN.put (by omega))) wr_same (by omega) (by omega) (by omega), wr_wr]
    · rw [if_pos hl, rn_stop (fun k => hl k.2), ← h3, wr_self]
theorem fM_next_b160_eq {n t : Nat} {T : Stk} : ∀ (c j z k : Nat) (N : Mem), NB n t T N → N 85 29 = nI j → j ≤ n → n - j = c → c < z → k ≤ j → ∃ N', fM_next_b160 z (nI k) N = some N' ∧ KN N N' ∧ N' 85 31 = N 85 31 ∧ N' 85 29 = nI (rn cDg n T j) ∧ N' 85 30 = (if k + (rn cDg n T j - j) ≤ 4 then 2 else 4) ∧ (k + (rn cDg n T j - j) ≤ 4 → lgc (N' 85 132) (N' 85 32) = numL T (rn cDg n T j - j) j (lgc (N 85 132) (N 85 32))) := by
  intro c
  have fin : ∀ (j z k : Nat) (N : Mem), NB n t T N → N 85 29 = nI j → j ≤ n → k ≤ j → rn cDg n T j = j → (j < n → cDg (T j) = false) → ∃ N', fM_next_b160 (z + 1) (nI k) N = some N' ∧ KN N N' ∧ N' 85 31 = N 85 31 ∧ N' 85 29 = nI (rn cDg n T j) ∧ N' 85 30 = (if k + (rn cDg n T j - j) ≤ 4 then 2 else 4) ∧ (k + (rn cDg n T j - j) ≤ 4 → lgc (N' 85 132) (N' 85 32) = numL T (rn cDg n T j - j) j (lgc (N 85 132) (N 85 32))) := by
    intro j z k N h h3 hj hk e hd
    have hn := h.1.2
    rw [e, Nat.sub_self, Nat.add_zero, numL, fM_next_b160, h3, fM_byteAt_eq h (by omega)]
    simp only [Option.bind_some, fM_inDg, bz_0]
    rw [if_pos (by
      by_cases hc : j < n
      · rw [if_pos hc, hd hc]; decide
      · rw [if_neg hc]; decide)]
    unfold fM_next_b246
    by_cases h4 : k ≤ 4
    · rw [if_pos (by rw [show (4 : Int32) = nI 4 from rfl, n_le (by omega) (by omega)]; exact h4), if_pos (show k + 0 ≤ 4 from h4)]
      refine ⟨_, rfl, KN.put (by omega), ?_, ?_, wr_same, fun _ => ?_⟩
      · rw [wr_at (by decide)]
      · rw [wr_at (by decide)]; exact h3
      · rw [wr_at (by decide), wr_at (by decide)]
    · rw [if_neg (by rw [show (4 : Int32) = nI 4 from rfl, n_le (by omega) (by omega)]; exact h4), if_neg (show ¬ k + 0 ≤ 4 from h4)]
      refine ⟨_, rfl, KN.put (by omega), ?_, ?_, wr_same, fun _ => ?_⟩
      · rw [wr_at (by decide)]
      · rw [wr_at (by decide)]; exact h3
      · rw [wr_at (by decide), wr_at (by decide)]
  induction c with
  | zero =>
    intro j z k N h h3 hj hc hz hk
    obtain ⟨z, rfl⟩ := Nat.exists_eq_succ_of_ne_zero (show z ≠ 0 by omega)
    exact fin j z k N h h3 hj hk (rn_stop (by omega)) (by omega)
  | succ c ih =>
    intro j z k N h h3 hj hc hz hk
    have hn := h.1.2
    obtain ⟨z, rfl⟩ := Nat.exists_eq_succ_of_ne_zero (show z ≠ 0 by omega)
    by_cases hl : cDg (T j) = true
    · have hb := (rn_bd (P := cDg) (n := n) (i := j + 1) (T := T) (by omega)).1
      rw [fM_next_b160, h3, fM_byteAt_eq h (by omega), if_pos (by omega)]
      simp only [Option.bind_some, fM_inDg, bz_0]
      rw [if_neg (fun k => k hl), h3]
      unfold fM_next_b216
      have step : ∀ s0 : Int64, ∃ N', fM_next_b160 z (nI k + 1) (wr (wr (wr N 85 132 (lgHi s0)) 85 32 (lgLo s0)) 85 29 (((wr (wr N 85 132 (lgHi s0)) 85 32 (lgLo s0)) 85 29) + 1)) = some N' ∧ KN N N' ∧ N' 85 31 = N 85 31 ∧ N' 85 29 = nI (rn cDg n T (j + 1)) ∧ N' 85 30 = (if k + 1 + (rn cDg n T (j + 1) - (j + 1)) ≤ 4 then 2 else 4) ∧ (k + 1 + (rn cDg n T (j + 1) - (j + 1)) ≤ 4 → lgc (N' 85 132) (N' 85 32) = numL T (rn cDg n T (j + 1) - (j + 1)) (j + 1) s0) := by
        intro s0
        rw [nI_1, wr_at (show 29 ≠ 32 by decide), wr_at (show 29 ≠ 132 by decide), h3, nI_1]
        have kn : KN N (wr (wr (wr N 85 132 (lgHi s0)) 85 32 (lgLo s0)) 85 29 (nI (j + 1))) := ((KN.put (by omega)).trans (KN.put (by omega))).trans (KN.put (by omega))
        obtain ⟨N', e1, e2, e3, e4, e5, e6⟩ := ih (j + 1) z (k + 1) _ (h.kn kn) wr_same (by omega) (by omega) (by omega) (by omega)
        refine ⟨N', e1, kn.trans e2, ?_, e4, e5, fun h4 => ?_⟩
        · rw [e3]; simp [wr]
        · rw [e6 h4, wr_at (show 132 ≠ 29 by decide), wr_at (show 32 ≠ 29 by decide), wr_same, wr_at (show 132 ≠ 32 by decide), wr_same, lgc_eq]
      have hx : k + (rn cDg n T (j + 1) - j) = k + 1 + (rn cDg n T (j + 1) - (j + 1)) := by omega
      rw [rn_go (by omega) hl, hx]
      by_cases h4 : 4 ≤ k
      · rw [if_pos (by rw [show (4 : Int32) = nI 4 from rfl, n_le (by omega) (by omega)]; exact h4)]
        obtain ⟨N', e1, e2, e3, e4, e5, e6⟩ := step (lgc (N 85 132) (N 85 32))
        exact ⟨N', e1, e2, e3, e4, e5, fun h5 => absurd h5 (by omega)⟩
      · rw [if_neg (by rw [show (4 : Int32) = nI 4 from rfl, n_le (by omega) (by omega)]; exact h4), fM_byteAt_eq h (by omega), if_pos (by omega)]
        simp only [Option.bind_some]
        obtain ⟨N', e1, e2, e3, e4, e5, e6⟩ := step (((10 : Int64) * (lgc (N 85 132) (N 85 32))) + ((T j).toInt64) - (48 : Int64))
        refine ⟨N', e1, e2, e3, e4, e5, fun h5 => ?_⟩
        rw [e6 h5, show rn cDg n T (j + 1) - j = (rn cDg n T (j + 1) - (j + 1)) + 1 by omega, numL]
    · exact fin j z k N h h3 hj hk (rn_stop (fun w => hl w.2)) (fun _ => by simpa using hl)
theorem numCL {T : Stk} : ∀ (c j m : Nat) (x : Int32) (y : Int64), x.toInt = y.toInt → 0 ≤ x.toInt → m = 10 ^ c → (x.toInt + 1) * (m : Int) ≤ 10000 → (∀ i, j ≤ i → i < j + c → cDg (T i) = true) → (numC T c j x).toInt = (numL T c j y).toInt ∧ 0 ≤ (numC T c j x).toInt ∧ (numC T c j x).toInt < 10000
  | 0, j, m, x, y, h1, h2, h3, h4, h5 => by
    have : m = 1 := h3
    subst this
    exact ⟨h1, h2, by show x.toInt < 10000; omega⟩
  | c + 1, j, m, x, y, h1, h2, h3, h4, h5 => by
    have hd := cDg_iff.mp (h5 j (Nat.le_refl _) (by omega))
    rw [numC, numL]
    have hp : 0 < 10 ^ c := Nat.pow_pos (by omega)
    have hm : (m : Int) = 10 * ((10 ^ c : Nat) : Int) := by rw [h3, Nat.pow_succ]; omega
    have hp1 : (1 : Int) ≤ ((10 ^ c : Nat) : Int) := by omega
    generalize ((10 ^ c : Nat) : Int) = u at *
    have hx : (x.toInt + 1) * 10 * u ≤ 10000 := by rw [Int.mul_assoc, ← hm]; exact h4
    have hle : (x.toInt + 1) * 10 * 1 ≤ (x.toInt + 1) * 10 * u := Int.mul_le_mul_of_nonneg_left hp1 (by omega)
    have b1 : (x.toInt + 1) * 10 ≤ 10000 := by omega
    have e10 : (10 : Int32).toInt = 10 := rfl
    have e48 : (48 : Int32).toInt = 48 := rfl
    have t1 : (x * 10).toInt = x.toInt * 10 := by rw [t_mul (by rw [e10]; omega) (by rw [e10]; omega), e10]
    have t2 : (x * 10 + T j).toInt = x.toInt * 10 + (T j).toInt := by rw [t_add (by omega) (by omega), t1]
    have t3 : (x * 10 + T j - 48).toInt = x.toInt * 10 + (T j).toInt - 48 := by rw [t_sub (by omega) (by omega), t2, e48]
    have l10 : (10 : Int64).toInt = 10 := rfl
    have l48 : (48 : Int64).toInt = 48 := rfl
    have s1 : (10 * y).toInt = 10 * x.toInt := by rw [Int64.toInt_mul, l10, ← h1, Int.bmod_eq_of_le (by omega) (by omega)]
    have s2 : (10 * y + (T j).toInt64).toInt = 10 * x.toInt + (T j).toInt := by rw [Int64.toInt_add, s1, t64, Int.bmod_eq_of_le (by omega) (by omega)]
    have s3 : (10 * y + (T j).toInt64 - 48).toInt = 10 * x.toInt + (T j).toInt - 48 := by rw [Int64.toInt_sub, s2, l48, Int.bmod_eq_of_le (by omega) (by omega)]
    refine numCL c (j + 1) (10 ^ c) _ _ (by omega) (by omega) rfl ?_ (fun i h6 h7 => h5 i (by omega) (by omega))
    have hu : ((10 ^ c : Nat) : Int) = u := by omega
    rw [t3, hu]
    have : (x.toInt * 10 + (T j).toInt - 48 + 1) * u ≤ (x.toInt + 1) * 10 * u := Int.mul_le_mul_of_nonneg_right (by omega) (by omega)
    omega
theorem numT_eq {n : Nat} {T : Stk} {a : Nat} (ha : a ≤ n) (h4 : rn cDg n T a - a ≤ 4) : (numL T (rn cDg n T a - a) a 0).toInt32 = numT n T a ∧ 0 ≤ (numT n T a).toInt := by
  have hb := rn_bd (P := cDg) (n := n) (i := a) (T := T) ha
  unfold numT
  have hm : (((10 ^ (rn cDg n T a - a) : Nat)) : Int) ≤ 10000 := by
    have : 10 ^ (rn cDg n T a - a) ≤ 10 ^ 4 := Nat.pow_le_pow_right (by omega) h4
    omega
  obtain ⟨h1, h2, h3⟩ := numCL (T := T) (rn cDg n T a - a) a _ 0 0 rfl (by decide) rfl (by rw [show (0 : Int32).toInt = 0 from rfl]; omega) (fun i h5 h6 => hb.2.2.2 i h5 (by omega))
  refine ⟨?_, h2⟩
  rw [i_eq, Int64.toInt_toInt32, ← h1, Int.bmod_eq_of_le (by omega) (by omega)]
end
section
/-! 33: the model's step -/
theorem next_at {n t : Nat} {T : Stk} {N : Mem} {a z : Nat} {o : Int32} (hB : ∀ i, i < n → 0 ≤ (T i).toInt) (h : NB n t T N) (h3 : N 85 29 = nI a) (ha : a ≤ n) (hbl : a < n → cBl (T a) = false) (hbad : N 85 34 = 0) (ho : N 85 33 = o) : ∃ N', fM_next_b0 (z + 1) N = some N' ∧ NS n t T N' a o ∧ KN N N' := by
  have hn := h.1.2
  rw [fM_next_b0, h3, fM_byteAt_eq h (by omega)]
  simp only [Option.bind_some]
  have hnb : ¬ (if a < n then T a else -1) = 32 ∧ ¬ (if a < n then T a else -1) = 10 := by
    by_cases hc : a < n
    · rw [if_pos hc]
      have := hbl hc
      simp [cBl] at this
      exact this
    · rw [if_neg hc]; decide
  rw [if_neg hnb.1, h3, fM_byteAt_eq h (by omega)]
  simp only [Option.bind_some]
  rw [if_neg hnb.2, h3]
  have k1 : KN N (wr N 85 31 (nI a)) := KN.put (by omega)
  have q29 : wr N 85 31 (nI a) 85 29 = nI a := by rw [wr_at (by decide)]; exact h3
  have q31 : wr N 85 31 (nI a) 85 31 = nI a := wr_same
  have q34 : wr N 85 31 (nI a) 85 34 = 0 := by rw [wr_at (by decide)]; exact hbad
  have q33 : wr N 85 31 (nI a) 85 33 = o := by rw [wr_at (by decide)]; exact ho
  have hN := h.kn k1
  generalize wr N 85 31 (nI a) = N1 at *
  rw [q29, fM_byteAt_eq hN (by omega)]
  simp only [Option.bind_some]
  by_cases hc : a < n
  · rw [if_pos hc, if_pos (by rw [i_le]; exact hB a hc), fM_inLt]
    simp only [Option.bind_some, bz_0]
    have k2 : KN N1 (wr N1 85 30 4) := KN.put (by omega)
    have p29 : wr N1 85 30 4 85 29 = nI a := by rw [wr_at (by decide)]; exact q29
    have p31 : wr N1 85 30 4 85 31 = nI a := by rw [wr_at (by decide)]; exact q31
    have p34 : wr N1 85 30 4 85 34 = 0 := by rw [wr_at (by decide)]; exact q34
    have p33 : wr N1 85 30 4 85 33 = o := by rw [wr_at (by decide)]; exact q33
    have p30 : wr N1 85 30 4 85 30 = 4 := wr_same
    have hN2 := hN.kn k2
    generalize wr N1 85 30 4 = N2 at *
    have k12 := k1.trans k2
    by_cases hl : cLt (T a) = true
    · rw [if_neg (fun k => k hl)]
      have ek : kndT n T a = 1 := by unfold kndT; rw [if_pos hc, if_pos hl]
      have ee : endT n T a = rn cLt n T a := by unfold endT; rw [if_pos hc, if_pos hl]
      rw [fM_next_b100_eq (n - a) a 1000 _ (hN2.kn (KN.put (by omega))) (by rw [wr_at (by decide)]; exact p29) ha rfl (by omega)]
      refine ⟨_, rfl, ⟨(hN2.kn (KN.put (by omega))).kn (KN.put (by omega)), ?_, ?_, ?_, fun w => ?_, fun w => ?_, ?_, ?_⟩, (k12.trans (KN.put (by omega))).trans (KN.put (by omega))⟩
      · simp [wr, p31]
      · rw [wr_same, ee]
      · rw [ek]; simp [wr]
      · rw [ek] at w; exact absurd w (by decide)
      · rw [ek] at w; exact absurd w (by decide)
      · simp [wr, p34]
      · simp [wr, p33]
    · rw [if_pos hl, fM_inDg]
      simp only [Option.bind_some, bz_0]
      by_cases hd : cDg (T a) = true
      · rw [if_neg (fun k => k hd)]
        have ek : kndT n T a = if rn cDg n T a - a ≤ 4 then 2 else 4 := by unfold kndT; rw [if_pos hc, if_neg hl, if_pos hd]
        have ee : endT n T a = rn cDg n T a := by unfold endT; rw [if_pos hc, if_neg hl, if_pos hd]
        have k3 : KN N2 (wr (wr (wr N2 85 30 2) 85 132 (lgHi (0 : Int64))) 85 32 (lgLo (0 : Int64))) := ((KN.put (by omega)).trans (KN.put (by omega))).trans (KN.put (by omega))
        have z0 : lgc (wr (wr (wr N2 85 30 2) 85 132 (lgHi (0 : Int64))) 85 32 (lgLo (0 : Int64)) 85 132) (wr (wr (wr N2 85 30 2) 85 132 (lgHi (0 : Int64))) 85 32 (lgLo (0 : Int64)) 85 32) = 0 := by
          rw [wr_at (show 132 ≠ 32 by decide), wr_same, wr_same, lgc_eq]
        obtain ⟨N', e1, e2, e3, e4, e5, e6⟩ := fM_next_b160_eq (n - a) a 1000 0 _ (hN2.kn k3) (by simp [wr, p29]) ha rfl (by omega) (Nat.zero_le _)
        rw [Nat.zero_add] at e5 e6
        rw [z0] at e6
        refine ⟨N', e1, ⟨(hN2.kn k3).kn e2, ?_, ?_, ?_, fun w => ?_, fun w => ?_, ?_, ?_⟩, (k12.trans k3).trans e2⟩
        · rw [e3]; simp [wr, p31]
        · rw [e4, ee]
        · rw [e5, ek]
        · by_cases h4 : rn cDg n T a - a ≤ 4
          · rw [e6 h4]; exact (numT_eq ha h4).1
          · rw [ek, if_neg h4] at w; exact absurd w (by decide)
        · rw [ek] at w
          by_cases h4 : rn cDg n T a - a ≤ 4
          · rw [if_pos h4] at w; exact absurd w (by decide)
          · rw [if_neg h4] at w; exact absurd w (by decide)
        · rw [e2.2 34 (by omega)]; simp [wr, p34]
        · rw [e2.2 33 (by omega)]; simp [wr, p33]
      · rw [if_pos hd]
        have ek : kndT n T a = if cSg (T a) = true then 3 else 4 := by unfold kndT; rw [if_pos hc, if_neg hl, if_neg hd]
        have ee : endT n T a = if cSg (T a) = true then a + 1 else a := by unfold endT; rw [if_pos hc, if_neg hl, if_neg hd]
        have sign : cSg (T a) = true → ∃ N', fM_next_b300 (T a) N2 = some N' ∧ NS n t T N' a o ∧ KN N N' := by
          intro hs
          rw [if_pos hs] at ek ee
          unfold fM_next_b300
          rw [wr_at (show 29 ≠ 32 by decide), wr_at (show 29 ≠ 132 by decide), wr_at (show 29 ≠ 30 by decide), p29, nI_1]
          have k3 : KN N2 (wr (wr (wr (wr N2 85 30 3) 85 132 (lgHi (T a).toInt64)) 85 32 (lgLo (T a).toInt64)) 85 29 (nI (a + 1))) := (((KN.put (by omega)).trans (KN.put (by omega))).trans (KN.put (by omega))).trans (KN.put (by omega))
          refine ⟨_, rfl, ⟨hN2.kn k3, ?_, ?_, ?_, fun w => ?_, fun w => ?_, ?_, ?_⟩, k12.trans k3⟩
          · simp [wr, p31]
          · rw [wr_same, ee]
          · rw [ek]; simp [wr]
          · rw [ek] at w; exact absurd w (by decide)
          · rw [wr_at (show 132 ≠ 29 by decide), wr_at (show 132 ≠ 32 by decide), wr_same, wr_at (show 32 ≠ 29 by decide), wr_same, lgc_eq]
          · simp [wr, p34]
          · simp [wr, p33]
        have none : cSg (T a) = false → ∃ N', some N2 = some N' ∧ NS n t T N' a o ∧ KN N N' := by
          intro hs
          rw [hs, if_neg (by decide)] at ek ee
          refine ⟨_, rfl, ⟨hN2, p31, by rw [p29, ee], by rw [p30, ek], fun w => ?_, fun w => ?_, p34, p33⟩, k12⟩
          · rw [ek] at w; exact absurd w (by decide)
          · rw [ek] at w; exact absurd w (by decide)
        by_cases s1 : T a = 40
        · rw [if_pos s1]; exact sign (by simp [cSg, s1])
        rw [if_neg s1]
        by_cases s2 : T a = 41
        · rw [if_pos s2]; exact sign (by simp [cSg, s2])
        rw [if_neg s2]
        by_cases s3 : T a = 59
        · rw [if_pos s3]; exact sign (by simp [cSg, s3])
        rw [if_neg s3]
        by_cases s4 : T a = 43
        · rw [if_pos s4]; exact sign (by simp [cSg, s4])
        rw [if_neg s4]
        by_cases s5 : T a = 45
        · rw [if_pos s5]; exact sign (by simp [cSg, s5])
        rw [if_neg s5]
        by_cases s6 : T a = 42
        · rw [if_pos s6]; exact sign (by simp [cSg, s6])
        rw [if_neg s6]
        by_cases s7 : T a = 60
        · rw [if_pos s7]; exact sign (by simp [cSg, s7])
        rw [if_neg s7]
        by_cases s8 : T a = 61
        · rw [if_pos s8]; exact sign (by simp [cSg, s8])
        rw [if_neg s8]
        exact none (by simp [cSg, s1, s2, s3, s4, s5, s6, s7, s8])
  · rw [if_neg hc, if_neg (by decide)]
    have ek : kndT n T a = 0 := by unfold kndT; rw [if_neg hc]
    have ee : endT n T a = a := by unfold endT; rw [if_neg hc]
    have hna : a = n := by omega
    rw [wr_at (show 28 ≠ 30 by decide), wr_at (show 28 ≠ 30 by decide), hN.2.2.1]
    have k3 : KN N1 (wr (wr (wr N1 85 30 4) 85 30 0) 85 31 (nI n)) := ((KN.put (by omega)).trans (KN.put (by omega))).trans (KN.put (by omega))
    refine ⟨_, rfl, ⟨hN.kn k3, ?_, ?_, ?_, fun w => ?_, fun w => ?_, ?_, ?_⟩, k1.trans k3⟩
    · rw [wr_same, hna]
    · rw [ee]; simp [wr, q29]
    · rw [ek]; simp [wr]
    · rw [ek] at w; exact absurd w (by decide)
    · rw [ek] at w; exact absurd w (by decide)
    · simp [wr, q34]
    · simp [wr, q33]
theorem fM_next_eq {n t : Nat} {T : Stk} {N : Mem} {b : Nat} {o : Int32} (hB : ∀ i, i < n → 0 ≤ (T i).toInt) (h : NB n t T N) (h3 : N 85 29 = nI b) (hb : b ≤ n) (hbad : N 85 34 = 0) (ho : N 85 33 = o) : ∃ N', fM_next N = some N' ∧ NS n t T N' (rn cBl n T b) o ∧ KN N N' := by
  have hn := h.1.2
  have bd := rn_bd (P := cBl) (n := n) (i := b) (T := T) hb
  unfold fM_next
  rw [show 1000 = (999 - (rn cBl n T b - b) + 1) + (rn cBl n T b - b) by omega, nx_run (rn cBl n T b - b) b _ N h h3 (by omega) (fun j h1 h2 => bd.2.2.2 j h1 (by omega)), show b + (rn cBl n T b - b) = rn cBl n T b by omega]
  obtain ⟨N', e1, e2, e3⟩ := next_at (z := 999 - (rn cBl n T b - b)) (o := o) hB (h.kn (KN.put (by omega))) (wr_same (M := N) (v := nI (rn cBl n T b))) bd.2.1 bd.2.2.1 (by rw [wr_at (by decide)]; exact hbad) (by rw [wr_at (by decide)]; exact ho)
  exact ⟨N', e1, e2, (KN.put (by omega)).trans e3⟩
/-! both at once: the state of a reading, what a rule does -/
theorem tok_wd {n : Nat} {T : Stk} {a w : Nat} (hB : ∀ i, i < n → 0 ≤ (T i).toInt) (ha : a ≤ n) (hw : w < 12) : tokC n T a = nI w ↔ kndT n T a = 1 ∧ wdT T a (endT n T a) = w := by
  unfold tokC kndT endT
  by_cases hc : a < n
  · rw [if_pos hc, if_pos hc, if_pos hc]
    by_cases hl : cLt (T a) = true
    · rw [if_pos hl, if_pos hl, if_pos hl]
      have := wd_bd (T := T) (a := a) (e := rn cLt n T a)
      rw [n_eq (by omega) (by omega)]
      exact ⟨fun z => ⟨rfl, z⟩, fun z => z.2⟩
    · rw [if_neg hl, if_neg hl, if_neg hl]
      by_cases hd : cDg (T a) = true
      · rw [if_pos hd, if_pos hd]
        constructor
        · intro z
          split at z
          · rw [show (12 : Int32) = nI 12 from rfl, n_eq (by omega) (by omega)] at z; omega
          · rw [show (14 : Int32) = nI 14 from rfl, n_eq (by omega) (by omega)] at z; omega
        · rintro ⟨z, -⟩
          split at z <;> exact absurd z (by decide)
      · rw [if_neg hd, if_neg hd]
        constructor
        · intro z
          split at z
          · rename_i hs
            have := tok14 hB hc (by simpa using hl) (by simpa using hd) hs
            rw [z, nI_t (by omega)] at this
            omega
          · rw [show (14 : Int32) = nI 14 from rfl, n_eq (by omega) (by omega)] at z; omega
        · rintro ⟨z, -⟩
          split at z <;> exact absurd z (by decide)
  · rw [if_neg hc, if_neg hc]
    constructor
    · intro z
      rw [show (13 : Int32) = nI 13 from rfl, n_eq (by omega) (by omega)] at z; omega
    · rintro ⟨z, -⟩; exact absurd z (by decide)
theorem tok_sg {n : Nat} {T : Stk} {a : Nat} {s : Int32} (hs : cSg s = true) : tokC n T a = s ↔ kndT n T a = 3 ∧ T a = s := by
  have h40 : 40 ≤ s.toInt := by
    unfold cSg at hs
    simp only [Bool.or_eq_true, decide_eq_true_eq] at hs
    rcases hs with (((((((h | h) | h) | h) | h) | h) | h) | h) <;> rw [h] <;> decide
  have ne : ∀ k : Nat, k < 40 → nI k ≠ s := by
    intro k hk z
    rw [← z, nI_t (by omega)] at h40
    omega
  unfold tokC kndT
  by_cases hc : a < n
  · rw [if_pos hc, if_pos hc]
    by_cases hl : cLt (T a) = true
    · rw [if_pos hl, if_pos hl]
      have := wd_bd (T := T) (a := a) (e := rn cLt n T a)
      exact ⟨fun z => absurd z (ne _ (by omega)), fun z => absurd z.1 (by decide)⟩
    · rw [if_neg hl, if_neg hl]
      by_cases hd : cDg (T a) = true
      · rw [if_pos hd, if_pos hd]
        constructor
        · intro z
          split at z
          · exact absurd z (ne 12 (by omega))
          · exact absurd z (ne 14 (by omega))
        · rintro ⟨z, -⟩
          split at z <;> exact absurd z (by decide)
      · rw [if_neg hd, if_neg hd]
        by_cases h : cSg (T a) = true
        · rw [if_pos h, if_pos h]
          exact ⟨fun z => ⟨rfl, z⟩, fun z => z.2⟩
        · rw [if_neg h, if_neg h]
          exact ⟨fun z => absurd z (ne 14 (by omega)), fun z => absurd z.1 (by decide)⟩
  · rw [if_neg hc, if_neg hc]
    exact ⟨fun z => absurd z (ne 13 (by omega)), fun z => absurd z.1 (by decide)⟩
theorem tok_nm {n : Nat} {T : Stk} {a : Nat} (hB : ∀ i, i < n → 0 ≤ (T i).toInt) : tokC n T a = 12 ↔ kndT n T a = 2 := by
  unfold tokC kndT
  by_cases hc : a < n
  · rw [if_pos hc, if_pos hc]
    by_cases hl : cLt (T a) = true
    · rw [if_pos hl, if_pos hl]
      have := wd_bd (T := T) (a := a) (e := rn cLt n T a)
      constructor
      · intro z; rw [show (12 : Int32) = nI 12 from rfl, n_eq (by omega) (by omega)] at z; omega
      · intro z; exact absurd z (by decide)
    · rw [if_neg hl, if_neg hl]
      by_cases hd : cDg (T a) = true
      · rw [if_pos hd, if_pos hd]
        by_cases h4 : rn cDg n T a - a ≤ 4
        · rw [if_pos h4, if_pos h4]; decide
        · rw [if_neg h4, if_neg h4]; decide
      · rw [if_neg hd, if_neg hd]
        by_cases h : cSg (T a) = true
        · rw [if_pos h, if_pos h]
          have := tok14 hB hc (by simpa using hl) (by simpa using hd) h
          exact ⟨fun z => absurd z this.2.1, fun z => absurd z (by decide)⟩
        · rw [if_neg h, if_neg h]; decide
  · rw [if_neg hc, if_neg hc]; decide
theorem tok_end {n : Nat} {T : Stk} {a : Nat} (hB : ∀ i, i < n → 0 ≤ (T i).toInt) : tokC n T a = 13 ↔ kndT n T a = 0 := by
  unfold tokC kndT
  by_cases hc : a < n
  · rw [if_pos hc, if_pos hc]
    by_cases hl : cLt (T a) = true
    · rw [if_pos hl, if_pos hl]
      have := wd_bd (T := T) (a := a) (e := rn cLt n T a)
      constructor
      · intro z; rw [show (13 : Int32) = nI 13 from rfl, n_eq (by omega) (by omega)] at z; omega
      · intro z; exact absurd z (by decide)
    · rw [if_neg hl, if_neg hl]
      by_cases hd : cDg (T a) = true
      · rw [if_pos hd, if_pos hd]
        by_cases h4 : rn cDg n T a - a ≤ 4
        · rw [if_pos h4, if_pos h4]; decide
        · rw [if_neg h4, if_neg h4]; decide
      · rw [if_neg hd, if_neg hd]
        by_cases h : cSg (T a) = true
        · rw [if_pos h, if_pos h]
          have := tok14 hB hc (by simpa using hl) (by simpa using hd) h
          exact ⟨fun z => absurd z this.2.2.1, fun z => absurd z (by decide)⟩
        · rw [if_neg h, if_neg h]; decide
  · rw [if_neg hc, if_neg hc]; decide
/-- a token that can stand is not the end of the tape: it has bytes -/
theorem tok_len {n : Nat} {T : Stk} {a : Nat} (ha : a ≤ n) (h13 : tokC n T a ≠ 13) (h14 : tokC n T a ≠ 14) : a < endT n T a ∧ endT n T a ≤ n := by
  unfold tokC at h13 h14
  unfold endT
  by_cases hc : a < n
  · rw [if_pos hc] at h14 ⊢
    by_cases hl : cLt (T a) = true
    · rw [if_pos hl]
      have b := rn_bd (P := cLt) (n := n) (i := a + 1) (T := T) (by omega)
      rw [rn_go hc hl]
      omega
    · rw [if_neg hl] at h14 ⊢
      by_cases hd : cDg (T a) = true
      · rw [if_pos hd]
        have b := rn_bd (P := cDg) (n := n) (i := a + 1) (T := T) (by omega)
        rw [rn_go hc hd]
        omega
      · rw [if_neg hd] at h14 ⊢
        by_cases h : cSg (T a) = true
        · rw [if_pos h]; omega
        · rw [if_neg h] at h14; exact absurd rfl h14
  · rw [if_neg hc] at h13; exact absurd rfl h13
theorem end_le {n : Nat} {T : Stk} {a : Nat} (ha : a ≤ n) : a ≤ endT n T a ∧ endT n T a ≤ n := by
  unfold endT
  by_cases hc : a < n
  · rw [if_pos hc]
    have b1 := rn_bd (P := cLt) (n := n) (i := a) (T := T) (by omega)
    have b2 := rn_bd (P := cDg) (n := n) (i := a) (T := T) (by omega)
    split
    · omega
    · split
      · omega
      · split <;> omega
  · rw [if_neg hc]; omega
theorem NS_word {n t : Nat} {T : Stk} {N : Mem} {a w : Nat} {o : Int32} (hB : ∀ i, i < n → 0 ≤ (T i).toInt) (s : NS n t T N a o) (ha : a ≤ n) (hw : w < 12) : fM_isWord (cw (wtab.getD w (0, 0)) 0) (cw (wtab.getD w (0, 0)) 1) (cw (wtab.getD w (0, 0)) 2) (cw (wtab.getD w (0, 0)) 3) (cw (wtab.getD w (0, 0)) 4) (cw (wtab.getD w (0, 0)) 5) (cw (wtab.getD w (0, 0)) 6) (cw (wtab.getD w (0, 0)) 7) N = some (bz (tokC n T a = nI w), N) := by
  obtain ⟨s1, s2, s3, s4, s5, s6, s7, s8⟩ := s
  have el := end_le (T := T) ha
  rw [bz_iff (tok_wd hB ha hw)]
  by_cases hk : kndT n T a = 1
  · rw [fM_isWord_eq s1 s7 (s4.trans hk) s2 s3 el.2 el.1]
    have ok := wtab_ok w hw
    have hL : ∀ i, a ≤ i → i < endT n T a → cLt (T i) = true := by
      unfold kndT at hk
      unfold endT
      by_cases hc : a < n
      · rw [if_pos hc] at hk ⊢
        by_cases hl : cLt (T a) = true
        · rw [if_pos hl]
          exact (rn_bd (P := cLt) (n := n) (i := a) (T := T) (by omega)).2.2.2
        · rw [if_neg hl] at hk
          exfalso
          split at hk
          · split at hk <;> exact absurd hk (by decide)
          · split at hk <;> exact absurd hk (by decide)
      · rw [if_neg hc] at hk; exact absurd hk (by decide)
    have hm := isW_mt (T := T) (s := (wtab.getD w (0, 0)).1) (t := (wtab.getD w (0, 0)).2) el.1 hL ok.1 ok.2
    rw [hm]
    exact congrArg (fun x => some (x, N)) (bz_iff (by rw [← wd_iff hw]; exact ⟨fun z => ⟨hk, z⟩, fun z => z.2⟩))
  · unfold fM_isWord
    rw [if_pos s7, s4, if_neg hk, bz, if_neg (fun z => hk z.1)]
theorem NS_sign {n t : Nat} {T : Stk} {N : Mem} {a : Nat} {o s : Int32} (q : NS n t T N a o) (hs : cSg s = true) : fM_isSign s N = some (bz (tokC n T a = s), N) := by
  obtain ⟨s1, s2, s3, s4, s5, s6, s7, s8⟩ := q
  rw [bz_iff (tok_sg hs)]
  unfold fM_isSign
  rw [if_pos s7, s4]
  by_cases hk : kndT n T a = 3
  · rw [if_pos hk, s6 hk]
    by_cases ht : T a = s
    · rw [if_pos (by rw [lgc_eq0, ht]), bz, if_pos ⟨hk, ht⟩]
    · rw [if_neg (by
        rw [lgc_eq0, ← Int64.toInt_inj, t64, t64, ← i_eq]
        exact ht), bz, if_neg (fun z => ht z.2)]
  · rw [if_neg hk, bz, if_neg (fun z => hk z.1)]
end
section
/-! 34: the rules, class and model in one -/
def CB (M : Mem) (f : Nat) : Prop := M 40 4 = 14 ∧ M 40 6 = nI f ∧ f < 1000 ∧ 0 ≤ (M 40 9).toInt ∧ (M 40 9).toInt ≤ 160
def NF (N : Mem) (f : Nat) : Prop := N 85 34 = 1 ∧ N 85 35 = nI f
def KC (M N : Mem) : Prop := (∀ a, a ≠ 40 → a ≠ 42 → N a = M a) ∧ ∀ j, (j < 2 ∨ (6 < j ∧ j ≠ 9)) → N 40 j = M 40 j
theorem KC.rfl' {M : Mem} : KC M M := ⟨fun _ _ _ => rfl, fun _ _ => rfl⟩
theorem KC.trans {M N O : Mem} (a : KC M N) (b : KC N O) : KC M O := ⟨fun x h1 h2 => (b.1 x h1 h2).trans (a.1 x h1 h2), fun j h => (b.2 j h).trans (a.2 j h)⟩
theorem KA.c {M N : Mem} (a : KA M N) : KC M N := ⟨fun x h1 _ => a.1 x h1, fun j h => a.2 j (by omega)⟩
theorem KeepR.rfl' {M : Mem} : KeepR M M := ⟨fun _ _ => rfl, fun _ _ => rfl⟩
theorem KeepR.trans {M N O : Mem} (a : KeepR M N) (b : KeepR N O) : KeepR M O := ⟨fun x h => (b.1 x h).trans (a.1 x h), fun j h => (b.2 j h).trans (a.2 j h)⟩
theorem KeepR.put {M : Mem} {j : Nat} {v : Int32} (h : (27 ≤ j ∧ j < 36) ∨ j = 132) : KeepR M (wr M 85 j v) := ⟨fun a ha => wr_ne ha, fun i hi => wr_at (by omega)⟩
def nmN (N : Mem) : Stk := fun j => N 85 (21 + j)
theorem Ev.nm {nm nn C : Stk} {w w' : Nat} {v : Int32} (e : Ev nm C w w' v) (h : ∀ j, j < 6 → nn j = nm j) : Ev nn C w w' v := by
  intro S k hk
  rw [runC_nm h]
  exact e S k hk
theorem nmN_keep {N N' : Mem} (k : KeepR N N') : ∀ j, j < 6 → nmN N j = nmN N' j := fun j hj => (k.2 (21 + j) (by omega)).symm
def Out (n t : Nat) (T : Stk) (M N M' N' : Mem) (a0 w0 o : Nat) (v : Int32) : Prop := KC M M' ∧ KeepR N N' ∧ ((∃ a w, CS n T M' a w ∧ NS n t T N' a (nI o) ∧ a0 < a ∧ w0 < w ∧ w + a0 ≤ w0 + a ∧ Ev (nmN N) (M' 42) w0 w v ∧ ∀ i, i < w0 → M' 42 i = M 42 i) ∨ ∃ f, CB M' f ∧ NF N' f ∧ f ≤ n)
def Rule (n t : Nat) (T : Stk) (d w o : Nat) : Prop := ∀ (M N : Mem) (a r : Nat), CS n T M a r → NS n t T N a (nI o) → r ≤ a → ∃ M' N' v, f_rR d w (nI o) M = some M' ∧ f_rM d w N = some (v, N') ∧ Out n t T M N M' N' a r o v
theorem Out.pre {n t : Nat} {T : Stk} {M N M1 N1 M' N' : Mem} {a0 w0 o : Nat} {v : Int32} (k1 : KC M M1) (k2 : KeepR N N1) (hp : ∀ i, i < w0 → M1 42 i = M 42 i) (h : Out n t T M1 N1 M' N' a0 w0 o v) : Out n t T M N M' N' a0 w0 o v := by
  obtain ⟨h1, h2, h3⟩ := h
  refine ⟨k1.trans h1, k2.trans h2, ?_⟩
  rcases h3 with ⟨a, w, q1, q2, q3, q4, q5, q6, q7⟩ | q
  · exact Or.inl ⟨a, w, q1, q2, q3, q4, q5, q6.nm (nmN_keep k2), fun i hi => (q7 i hi).trans (hp i hi)⟩
  · exact Or.inr q
theorem write_CS {n : Nat} {T : Stk} {M : Mem} {a w : Nat} (c : Int32) (s : CS n T M a w) (hw : w < 160) : ∃ M', fR_write c M = some M' ∧ CS n T M' a (w + 1) ∧ M' 42 = stS (M 42) w c ∧ KC M M' := by
  obtain ⟨s1, s2, s3, s4, s5, s6, s7, s8⟩ := s
  unfold fR_write
  rw [s8, if_neg (by rw [show (160 : Int32) = nI 160 from rfl, n_le (by omega) (by omega)]; omega), if_pos (ib_nI hw (by omega)), ix_nI (by omega), wr_ne (show 40 ≠ 42 by decide), s8, nI_1]
  have r40 : ∀ j, j ≠ 9 → wr (wr M 42 w c) 40 9 (nI (w + 1)) 40 j = M 40 j := fun j hj => by rw [wr_at hj, wr_ne (by decide)]
  refine ⟨_, rfl, ⟨⟨?_, s1.2.1, fun i hi => ?_⟩, s2, ?_, ?_, ?_, fun h => ?_, ?_, wr_same⟩, ?_, ⟨fun x h1 h2 => ?_, fun j hj => ?_⟩⟩
  · rw [r40 _ (by decide)]; exact s1.1
  · rw [wr_ne (by decide), wr_ne (by decide)]; exact s1.2.2 i hi
  · rw [r40 _ (by decide)]; exact s3
  · rw [r40 _ (by decide)]; exact s4
  · rw [r40 _ (by decide)]; exact s5
  · rw [r40 _ (by decide)]; exact s6 h
  · rw [r40 _ (by decide)]; exact s7
  · rw [wr_ne (by decide), wr_stS]
  · rw [wr_ne h1, wr_ne h2]
  · exact r40 j (by omega)
theorem write_CB {M : Mem} {f : Nat} (c : Int32) (s : CB M f) : ∃ M', fR_write c M = some M' ∧ CB M' f ∧ KC M M' := by
  obtain ⟨s1, s2, s3, s4, s5⟩ := s
  have e160 : (160 : Int32).toInt = 160 := rfl
  have e1 : (1 : Int32).toInt = 1 := rfl
  unfold fR_write
  by_cases h : (160 : Int32) ≤ M 40 9
  · rw [if_pos h]
    exact ⟨M, rfl, ⟨s1, s2, s3, s4, s5⟩, KC.rfl'⟩
  · rw [i_le, e160] at h
    rw [if_neg (by rw [i_le, e160]; exact h), if_pos (show ib (M 40 9) 160 from ⟨s4, by omega⟩), wr_ne (show 40 ≠ 42 by decide)]
    have hs : (M 40 9 + 1).toInt = (M 40 9).toInt + 1 := by rw [t_add (by omega) (by omega), e1]
    have r40 : ∀ (x : Nat) (y : Int32) j, j ≠ 9 → wr (wr M 42 x c) 40 9 y 40 j = M 40 j := fun x y j hj => by rw [wr_at hj, wr_ne (by decide)]
    refine ⟨_, rfl, ⟨by rw [r40 _ _ _ (by decide)]; exact s1, by rw [r40 _ _ _ (by decide)]; exact s2, s3, by rw [wr_same, hs]; omega, by rw [wr_same, hs]; omega⟩, ⟨fun x h1 h2 => by rw [wr_ne h1, wr_ne h2], fun j hj => r40 _ _ j (by omega)⟩⟩
theorem refuse_CB {M : Mem} {f : Nat} (s : CB M f) : fR_refuse M = some M := by
  unfold fR_refuse fR_refuse_b16
  rw [s.2.1, if_neg (nI_m1 (by have := s.2.2.1; omega)), ← s.1, wr_self]
theorem refuse_CS {n : Nat} {T : Stk} {M : Mem} {a w : Nat} (s : CS n T M a w) (hw : w ≤ 160) : ∃ M', fR_refuse M = some M' ∧ CB M' a ∧ KC M M' := by
  obtain ⟨s1, s2, s3, s4, s5, s6, s7, s8⟩ := s
  have hn := s1.2.1
  by_cases h14 : tokC n T a = 14
  · rw [h14, if_pos rfl] at s7
    have cb : CB M a := ⟨by rw [s5, h14], s7, by omega, by rw [s8, nI_t (by omega)]; omega, by rw [s8, nI_t (by omega)]; omega⟩
    exact ⟨M, refuse_CB cb, cb, KC.rfl'⟩
  · rw [if_neg h14] at s7
    unfold fR_refuse fR_refuse_b16
    rw [s7, if_pos rfl, s3]
    refine ⟨_, rfl, ⟨wr_same, by rw [wr_at (by decide), wr_same], by omega, ?_, ?_⟩, ((KA.put (by omega)).trans (KA.put (by omega))).c⟩
    · rw [wr_at (by decide), wr_at (by decide), s8, nI_t (by omega)]; omega
    · rw [wr_at (by decide), wr_at (by decide), s8, nI_t (by omega)]; omega
theorem fail_NF {N : Mem} {f : Nat} (s : NF N f) : fM_fail N = some N := by
  unfold fM_fail
  rw [s.1, if_neg (by decide)]
theorem fail_NS {n t : Nat} {T : Stk} {N : Mem} {a : Nat} {o : Int32} (s : NS n t T N a o) : ∃ N', fM_fail N = some N' ∧ NF N' a ∧ KeepR N N' := by
  obtain ⟨s1, s2, s3, s4, s5, s6, s7, s8⟩ := s
  unfold fM_fail
  rw [if_pos s7, wr_at (show 31 ≠ 34 by decide), s2]
  exact ⟨_, rfl, ⟨by rw [wr_at (by decide), wr_same], wr_same⟩, (KeepR.put (by omega)).trans (KeepR.put (by omega))⟩
theorem sign_NF {N : Mem} {f : Nat} (s : NF N f) (c : Int32) : fM_isSign c N = some (0, N) := by
  unfold fM_isSign
  rw [s.1, if_neg (by decide)]
theorem word_NF {N : Mem} {f : Nat} (s : NF N f) (c0 c1 c2 c3 c4 c5 c6 c7 : Int32) : fM_isWord c0 c1 c2 c3 c4 c5 c6 c7 N = some (0, N) := by
  unfold fM_isWord
  rw [s.1, if_neg (by decide)]
/-- both go one token ahead -/
theorem adv_both {n t : Nat} {T : Stk} {M N : Mem} {a r : Nat} {o : Int32} (hB : ∀ i, i < n → 0 ≤ (T i).toInt) (c : CS n T M a r) (s : NS n t T N a o) (h13 : tokC n T a ≠ 13) (h14 : tokC n T a ≠ 14) : ∃ M' N' a', fR_advance M = some M' ∧ fM_next N = some N' ∧ CS n T M' a' r ∧ NS n t T N' a' o ∧ a < a' ∧ KC M M' ∧ KeepR N N' ∧ M' 42 = M 42 := by
  have tl := tok_len c.2.1 h13 h14
  obtain ⟨M', e1, e2, e3⟩ := fR_advance_eq (w := r) hB c.1 c.2.2.2.1 tl.2 (by rw [c.2.2.2.2.2.2.1, if_neg h14]) c.2.2.2.2.2.2.2
  obtain ⟨N', q1, q2, q3⟩ := fM_next_eq (o := o) hB s.1 s.2.2.1 tl.2 s.2.2.2.2.2.2.1 s.2.2.2.2.2.2.2
  have b := rn_bd (P := cBl) (n := n) (i := endT n T a) (T := T) tl.2
  exact ⟨M', N', _, e1, q1, e2, q2, by omega, e3.c, q3.r, e3.1 42 (by decide)⟩
theorem NS.o {n t : Nat} {T : Stk} {N : Mem} {a : Nat} {o : Int32} (s : NS n t T N a o) (x : Int32) : NS n t T (wr N 85 33 x) a x := by
  obtain ⟨s1, s2, s3, s4, s5, s6, s7, s8⟩ := s
  have r : ∀ j, j ≠ 33 → wr N 85 33 x 85 j = N 85 j := fun j hj => wr_at hj
  refine ⟨?_, by rw [r 31 (by decide)]; exact s2, by rw [r 29 (by decide)]; exact s3, by rw [r 30 (by decide)]; exact s4, fun h => by rw [r 132 (by decide), r 32 (by decide)]; exact s5 h, fun h => by rw [r 132 (by decide), r 32 (by decide)]; exact s6 h, by rw [r 34 (by decide)]; exact s7, wr_same⟩
  unfold NB
  rw [r 27 (by decide), r 28 (by decide), wr_ne (show 86 ≠ 85 by decide)]
  exact s1
theorem NF.o {N : Mem} {f : Nat} (s : NF N f) (x : Int32) : NF (wr N 85 33 x) f := ⟨by rw [wr_at (by decide)]; exact s.1, by rw [wr_at (by decide)]; exact s.2⟩
/-- an operator behind what has been read: both read on -/
theorem stepL {n t : Nat} {T : Stk} {d k o : Nat} (hB : ∀ i, i < n → 0 ≤ (T i).toInt) (R : Rule n t T d k o) {M N : Mem} {a w a0 w0 : Nat} {v s : Int32} (c : CS n T M a w) (q : NS n t T N a (nI o)) (h13 : tokC n T a ≠ 13) (h14 : tokC n T a ≠ 14) (ha : a0 < a) (hw : w0 < w) (hwa : w + a0 ≤ w0 + a) (hle : w ≤ a) (ev : Ev (nmN N) (M 42) w0 w v) (hs : (9 ≤ s.toInt ∧ s.toInt ≤ 10) ∨ (13 ≤ s.toInt ∧ s.toInt ≤ 1000)) : ∃ M2 N2 M3 N3 u M4, fR_advance M = some M2 ∧ fM_next N = some N2 ∧ f_rR d k (nI o) M2 = some M3 ∧ f_rM d k N2 = some (u, N3) ∧ fR_write (-s) M3 = some M4 ∧ KC M M4 ∧ KeepR N N3 ∧ ((∃ a4 w4, CS n T M4 a4 w4 ∧ NS n t T N3 a4 (nI o) ∧ a < a4 ∧ w0 < w4 ∧ w4 + a0 ≤ w0 + a4 ∧ w4 ≤ a4 ∧ Ev (nmN N) (M4 42) w0 w4 (jn s v u) ∧ ∀ i, i < w0 → M4 42 i = M 42 i) ∨ ∃ f, CB M4 f ∧ NF N3 f ∧ f ≤ n) := by
  obtain ⟨M2, N2, a2, e1, e2, c2, q2, h2, k2, r2, m2⟩ := adv_both hB c q h13 h14
  obtain ⟨M3, N3, u, e3, e4, k3, r3, h3⟩ := R M2 N2 a2 w c2 q2 (by omega)
  rcases h3 with ⟨a3, w3, c3, q3, x1, x2, x3, ev3, p3⟩ | ⟨f, f1, f2, f3⟩
  · have hn := c3.1.2.1
    have hn3 := c3.2.1
    obtain ⟨M4, e5, c4, m4, k4⟩ := write_CS (-s) c3 (by omega)
    refine ⟨M2, N2, M3, N3, u, M4, e1, e2, e3, e4, e5, (k2.trans k3).trans k4, r2.trans r3, Or.inl ⟨a3, w3 + 1, c4, q3, by omega, by omega, by omega, by omega, ?_, fun i hi => ?_⟩⟩
    · have y1 : Ev (nmN N) (M4 42) w0 w v := ev.congr (by omega) (fun i h5 h6 => by
        rw [m4, stS, if_neg (by omega), p3 i h6, m2])
      have y2 : Ev (nmN N) (M4 42) w w3 u := (ev3.congr (by omega) (fun i h5 h6 => by rw [m4, stS, if_neg (by omega)])).nm (nmN_keep r2)
      exact y1.bin y2 hw (by omega) (by rw [m4, stS, if_pos rfl]) hs
    · rw [m4, stS, if_neg (by omega), p3 i (by omega), m2]
  · obtain ⟨M4, e5, c4, k4⟩ := write_CB (-s) f1
    exact ⟨M2, N2, M3, N3, u, M4, e1, e2, e3, e4, e5, (k2.trans k3).trans k4, r2.trans r3, Or.inr ⟨f, c4, f2, f3⟩⟩
end
section
/-! 35: the loops of the rules -/
theorem Out.stay {n t : Nat} {T : Stk} {M N : Mem} {a w a0 w0 o : Nat} {v : Int32} (c : CS n T M a w) (q : NS n t T N a (nI o)) (ha : a0 < a) (hw : w0 < w) (hwa : w + a0 ≤ w0 + a) (ev : Ev (nmN N) (M 42) w0 w v) : Out n t T M N M N a0 w0 o v := ⟨KC.rfl', KeepR.rfl', Or.inl ⟨a, w, c, q, ha, hw, hwa, ev, fun _ _ => rfl⟩⟩
theorem NS_w0 {n t : Nat} {T : Stk} {N : Mem} {a : Nat} {o : Int32} (hB : ∀ i, i < n → 0 ≤ (T i).toInt) (s : NS n t T N a o) (ha : a ≤ n) : fM_isWord 109 105 110 117 116 101 0 0 N = some (bz (tokC n T a = 0), N) := by
  have h := NS_word hB s ha (w := 0) (by decide)
  have e0 : cw (wtab.getD 0 (0, 0)) 0 = 109 := by decide +kernel
  have e1 : cw (wtab.getD 0 (0, 0)) 1 = 105 := by decide +kernel
  have e2 : cw (wtab.getD 0 (0, 0)) 2 = 110 := by decide +kernel
  have e3 : cw (wtab.getD 0 (0, 0)) 3 = 117 := by decide +kernel
  have e4 : cw (wtab.getD 0 (0, 0)) 4 = 116 := by decide +kernel
  have e5 : cw (wtab.getD 0 (0, 0)) 5 = 101 := by decide +kernel
  have e6 : cw (wtab.getD 0 (0, 0)) 6 = 0 := by decide +kernel
  have e7 : cw (wtab.getD 0 (0, 0)) 7 = 0 := by decide +kernel
  rw [e0, e1, e2, e3, e4, e5, e6, e7] at h
  exact h
theorem NS_w1 {n t : Nat} {T : Stk} {N : Mem} {a : Nat} {o : Int32} (hB : ∀ i, i < n → 0 ≤ (T i).toInt) (s : NS n t T N a o) (ha : a ≤ n) : fM_isWord 114 111 111 109 0 0 0 0 N = some (bz (tokC n T a = 1), N) := by
  have h := NS_word hB s ha (w := 1) (by decide)
  have e0 : cw (wtab.getD 1 (0, 0)) 0 = 114 := by decide +kernel
  have e1 : cw (wtab.getD 1 (0, 0)) 1 = 111 := by decide +kernel
  have e2 : cw (wtab.getD 1 (0, 0)) 2 = 111 := by decide +kernel
  have e3 : cw (wtab.getD 1 (0, 0)) 3 = 109 := by decide +kernel
  have e4 : cw (wtab.getD 1 (0, 0)) 4 = 0 := by decide +kernel
  have e5 : cw (wtab.getD 1 (0, 0)) 5 = 0 := by decide +kernel
  have e6 : cw (wtab.getD 1 (0, 0)) 6 = 0 := by decide +kernel
  have e7 : cw (wtab.getD 1 (0, 0)) 7 = 0 := by decide +kernel
  rw [e0, e1, e2, e3, e4, e5, e6, e7] at h
  exact h
theorem NS_w2 {n t : Nat} {T : Stk} {N : Mem} {a : Nat} {o : Int32} (hB : ∀ i, i < n → 0 ≤ (T i).toInt) (s : NS n t T N a o) (ha : a ≤ n) : fM_isWord 108 101 102 116 0 0 0 0 N = some (bz (tokC n T a = 2), N) := by
  have h := NS_word hB s ha (w := 2) (by decide)
  have e0 : cw (wtab.getD 2 (0, 0)) 0 = 108 := by decide +kernel
  have e1 : cw (wtab.getD 2 (0, 0)) 1 = 101 := by decide +kernel
  have e2 : cw (wtab.getD 2 (0, 0)) 2 = 102 := by decide +kernel
  have e3 : cw (wtab.getD 2 (0, 0)) 3 = 116 := by decide +kernel
  have e4 : cw (wtab.getD 2 (0, 0)) 4 = 0 := by decide +kernel
  have e5 : cw (wtab.getD 2 (0, 0)) 5 = 0 := by decide +kernel
  have e6 : cw (wtab.getD 2 (0, 0)) 6 = 0 := by decide +kernel
  have e7 : cw (wtab.getD 2 (0, 0)) 7 = 0 := by decide +kernel
  rw [e0, e1, e2, e3, e4, e5, e6, e7] at h
  exact h
theorem NS_w3 {n t : Nat} {T : Stk} {N : Mem} {a : Nat} {o : Int32} (hB : ∀ i, i < n → 0 ≤ (T i).toInt) (s : NS n t T N a o) (ha : a ≤ n) : fM_isWord 110 117 109 98 101 114 0 0 N = some (bz (tokC n T a = 3), N) := by
  have h := NS_word hB s ha (w := 3) (by decide)
  have e0 : cw (wtab.getD 3 (0, 0)) 0 = 110 := by decide +kernel
  have e1 : cw (wtab.getD 3 (0, 0)) 1 = 117 := by decide +kernel
  have e2 : cw (wtab.getD 3 (0, 0)) 2 = 109 := by decide +kernel
  have e3 : cw (wtab.getD 3 (0, 0)) 3 = 98 := by decide +kernel
  have e4 : cw (wtab.getD 3 (0, 0)) 4 = 101 := by decide +kernel
  have e5 : cw (wtab.getD 3 (0, 0)) 5 = 114 := by decide +kernel
  have e6 : cw (wtab.getD 3 (0, 0)) 6 = 0 := by decide +kernel
  have e7 : cw (wtab.getD 3 (0, 0)) 7 = 0 := by decide +kernel
  rw [e0, e1, e2, e3, e4, e5, e6, e7] at h
  exact h
theorem NS_w4 {n t : Nat} {T : Stk} {N : Mem} {a : Nat} {o : Int32} (hB : ∀ i, i < n → 0 ≤ (T i).toInt) (s : NS n t T N a o) (ha : a ≤ n) : fM_isWord 98 101 115 105 100 101 0 0 N = some (bz (tokC n T a = 4), N) := by
  have h := NS_word hB s ha (w := 4) (by decide)
  have e0 : cw (wtab.getD 4 (0, 0)) 0 = 98 := by decide +kernel
  have e1 : cw (wtab.getD 4 (0, 0)) 1 = 101 := by decide +kernel
  have e2 : cw (wtab.getD 4 (0, 0)) 2 = 115 := by decide +kernel
  have e3 : cw (wtab.getD 4 (0, 0)) 3 = 105 := by decide +kernel
  have e4 : cw (wtab.getD 4 (0, 0)) 4 = 100 := by decide +kernel
  have e5 : cw (wtab.getD 4 (0, 0)) 5 = 101 := by decide +kernel
  have e6 : cw (wtab.getD 4 (0, 0)) 6 = 0 := by decide +kernel
  have e7 : cw (wtab.getD 4 (0, 0)) 7 = 0 := by decide +kernel
  rw [e0, e1, e2, e3, e4, e5, e6, e7] at h
  exact h
theorem NS_w5 {n t : Nat} {T : Stk} {N : Mem} {a : Nat} {o : Int32} (hB : ∀ i, i < n → 0 ≤ (T i).toInt) (s : NS n t T N a o) (ha : a ≤ n) : fM_isWord 109 97 105 100 115 0 0 0 N = some (bz (tokC n T a = 5), N) := by
  have h := NS_word hB s ha (w := 5) (by decide)
  have e0 : cw (wtab.getD 5 (0, 0)) 0 = 109 := by decide +kernel
  have e1 : cw (wtab.getD 5 (0, 0)) 1 = 97 := by decide +kernel
  have e2 : cw (wtab.getD 5 (0, 0)) 2 = 105 := by decide +kernel
  have e3 : cw (wtab.getD 5 (0, 0)) 3 = 100 := by decide +kernel
  have e4 : cw (wtab.getD 5 (0, 0)) 4 = 115 := by decide +kernel
  have e5 : cw (wtab.getD 5 (0, 0)) 5 = 0 := by decide +kernel
  have e6 : cw (wtab.getD 5 (0, 0)) 6 = 0 := by decide +kernel
  have e7 : cw (wtab.getD 5 (0, 0)) 7 = 0 := by decide +kernel
  rw [e0, e1, e2, e3, e4, e5, e6, e7] at h
  exact h
theorem NS_w6 {n t : Nat} {T : Stk} {N : Mem} {a : Nat} {o : Int32} (hB : ∀ i, i < n → 0 ≤ (T i).toInt) (s : NS n t T N a o) (ha : a ≤ n) : fM_isWord 115 116 101 112 115 0 0 0 N = some (bz (tokC n T a = 6), N) := by
  have h := NS_word hB s ha (w := 6) (by decide)
  have e0 : cw (wtab.getD 6 (0, 0)) 0 = 115 := by decide +kernel
  have e1 : cw (wtab.getD 6 (0, 0)) 1 = 116 := by decide +kernel
  have e2 : cw (wtab.getD 6 (0, 0)) 2 = 101 := by decide +kernel
  have e3 : cw (wtab.getD 6 (0, 0)) 3 = 112 := by decide +kernel
  have e4 : cw (wtab.getD 6 (0, 0)) 4 = 115 := by decide +kernel
  have e5 : cw (wtab.getD 6 (0, 0)) 5 = 0 := by decide +kernel
  have e6 : cw (wtab.getD 6 (0, 0)) 6 = 0 := by decide +kernel
  have e7 : cw (wtab.getD 6 (0, 0)) 7 = 0 := by decide +kernel
  rw [e0, e1, e2, e3, e4, e5, e6, e7] at h
  exact h
theorem NS_w7 {n t : Nat} {T : Stk} {N : Mem} {a : Nat} {o : Int32} (hB : ∀ i, i < n → 0 ≤ (T i).toInt) (s : NS n t T N a o) (ha : a ≤ n) : fM_isWord 100 111 101 115 0 0 0 0 N = some (bz (tokC n T a = 7), N) := by
  have h := NS_word hB s ha (w := 7) (by decide)
  have e0 : cw (wtab.getD 7 (0, 0)) 0 = 100 := by decide +kernel
  have e1 : cw (wtab.getD 7 (0, 0)) 1 = 111 := by decide +kernel
  have e2 : cw (wtab.getD 7 (0, 0)) 2 = 101 := by decide +kernel
  have e3 : cw (wtab.getD 7 (0, 0)) 3 = 115 := by decide +kernel
  have e4 : cw (wtab.getD 7 (0, 0)) 4 = 0 := by decide +kernel
  have e5 : cw (wtab.getD 7 (0, 0)) 5 = 0 := by decide +kernel
  have e6 : cw (wtab.getD 7 (0, 0)) 6 = 0 := by decide +kernel
  have e7 : cw (wtab.getD 7 (0, 0)) 7 = 0 := by decide +kernel
  rw [e0, e1, e2, e3, e4, e5, e6, e7] at h
  exact h
theorem NS_w8 {n t : Nat} {T : Stk} {N : Mem} {a : Nat} {o : Int32} (hB : ∀ i, i < n → 0 ≤ (T i).toInt) (s : NS n t T N a o) (ha : a ≤ n) : fM_isWord 99 111 115 116 115 0 0 0 N = some (bz (tokC n T a = 8), N) := by
  have h := NS_word hB s ha (w := 8) (by decide)
  have e0 : cw (wtab.getD 8 (0, 0)) 0 = 99 := by decide +kernel
  have e1 : cw (wtab.getD 8 (0, 0)) 1 = 111 := by decide +kernel
  have e2 : cw (wtab.getD 8 (0, 0)) 2 = 115 := by decide +kernel
  have e3 : cw (wtab.getD 8 (0, 0)) 3 = 116 := by decide +kernel
  have e4 : cw (wtab.getD 8 (0, 0)) 4 = 115 := by decide +kernel
  have e5 : cw (wtab.getD 8 (0, 0)) 5 = 0 := by decide +kernel
  have e6 : cw (wtab.getD 8 (0, 0)) 6 = 0 := by decide +kernel
  have e7 : cw (wtab.getD 8 (0, 0)) 7 = 0 := by decide +kernel
  rw [e0, e1, e2, e3, e4, e5, e6, e7] at h
  exact h
theorem NS_w9 {n t : Nat} {T : Stk} {N : Mem} {a : Nat} {o : Int32} (hB : ∀ i, i < n → 0 ≤ (T i).toInt) (s : NS n t T N a o) (ha : a ≤ n) : fM_isWord 111 114 0 0 0 0 0 0 N = some (bz (tokC n T a = 9), N) := by
  have h := NS_word hB s ha (w := 9) (by decide)
  have e0 : cw (wtab.getD 9 (0, 0)) 0 = 111 := by decide +kernel
  have e1 : cw (wtab.getD 9 (0, 0)) 1 = 114 := by decide +kernel
  have e2 : cw (wtab.getD 9 (0, 0)) 2 = 0 := by decide +kernel
  have e3 : cw (wtab.getD 9 (0, 0)) 3 = 0 := by decide +kernel
  have e4 : cw (wtab.getD 9 (0, 0)) 4 = 0 := by decide +kernel
  have e5 : cw (wtab.getD 9 (0, 0)) 5 = 0 := by decide +kernel
  have e6 : cw (wtab.getD 9 (0, 0)) 6 = 0 := by decide +kernel
  have e7 : cw (wtab.getD 9 (0, 0)) 7 = 0 := by decide +kernel
  rw [e0, e1, e2, e3, e4, e5, e6, e7] at h
  exact h
theorem NS_w10 {n t : Nat} {T : Stk} {N : Mem} {a : Nat} {o : Int32} (hB : ∀ i, i < n → 0 ≤ (T i).toInt) (s : NS n t T N a o) (ha : a ≤ n) : fM_isWord 97 110 100 0 0 0 0 0 N = some (bz (tokC n T a = 10), N) := by
  have h := NS_word hB s ha (w := 10) (by decide)
  have e0 : cw (wtab.getD 10 (0, 0)) 0 = 97 := by decide +kernel
  have e1 : cw (wtab.getD 10 (0, 0)) 1 = 110 := by decide +kernel
  have e2 : cw (wtab.getD 10 (0, 0)) 2 = 100 := by decide +kernel
  have e3 : cw (wtab.getD 10 (0, 0)) 3 = 0 := by decide +kernel
  have e4 : cw (wtab.getD 10 (0, 0)) 4 = 0 := by decide +kernel
  have e5 : cw (wtab.getD 10 (0, 0)) 5 = 0 := by decide +kernel
  have e6 : cw (wtab.getD 10 (0, 0)) 6 = 0 := by decide +kernel
  have e7 : cw (wtab.getD 10 (0, 0)) 7 = 0 := by decide +kernel
  rw [e0, e1, e2, e3, e4, e5, e6, e7] at h
  exact h
theorem NS_w11 {n t : Nat} {T : Stk} {N : Mem} {a : Nat} {o : Int32} (hB : ∀ i, i < n → 0 ≤ (T i).toInt) (s : NS n t T N a o) (ha : a ≤ n) : fM_isWord 110 111 116 0 0 0 0 0 N = some (bz (tokC n T a = 11), N) := by
  have h := NS_word hB s ha (w := 11) (by decide)
  have e0 : cw (wtab.getD 11 (0, 0)) 0 = 110 := by decide +kernel
  have e1 : cw (wtab.getD 11 (0, 0)) 1 = 111 := by decide +kernel
  have e2 : cw (wtab.getD 11 (0, 0)) 2 = 116 := by decide +kernel
  have e3 : cw (wtab.getD 11 (0, 0)) 3 = 0 := by decide +kernel
  have e4 : cw (wtab.getD 11 (0, 0)) 4 = 0 := by decide +kernel
  have e5 : cw (wtab.getD 11 (0, 0)) 5 = 0 := by decide +kernel
  have e6 : cw (wtab.getD 11 (0, 0)) 6 = 0 := by decide +kernel
  have e7 : cw (wtab.getD 11 (0, 0)) 7 = 0 := by decide +kernel
  rw [e0, e1, e2, e3, e4, e5, e6, e7] at h
  exact h
theorem loop_term {n t : Nat} {T : Stk} {d o a0 w0 : Nat} (hB : ∀ i, i < n → 0 ≤ (T i).toInt) (R : Rule n t T d 5 o) : ∀ (c i z z' : Nat) (M N : Mem) (a w : Nat) (v : Int32), n - a ≤ c → c < z → c < z' → i ≤ a → CS n T M a w → NS n t T N a (nI o) → a0 < a → w0 < w → w + a0 ≤ w0 + a → w ≤ a → Ev (nmN N) (M 42) w0 w v → ∃ M' N' v', fR_readTerm_b7 (f_rR d) (nI o) z (nI i) M = some M' ∧ fM_term_b5 (f_rM d) z' v N = some (v', N') ∧ Out n t T M N M' N' a0 w0 o v' := by
  intro c
  have stop : ∀ (i z z' : Nat) (M N : Mem) (a w : Nat) (v : Int32), ¬ tokC n T a = 42 → CS n T M a w → NS n t T N a (nI o) → a0 < a → w0 < w → w + a0 ≤ w0 + a → Ev (nmN N) (M 42) w0 w v → ∃ M' N' v', fR_readTerm_b7 (f_rR d) (nI o) (z + 1) (nI i) M = some M' ∧ fM_term_b5 (f_rM d) (z' + 1) v N = some (v', N') ∧ Out n t T M N M' N' a0 w0 o v' := by
    intro i z z' M N a w v h0 c q ha hw hwa ev
    refine ⟨M, N, v, ?_, ?_, Out.stay c q ha hw hwa ev⟩
    · rw [fR_readTerm_b7, c.2.2.2.2.1, if_neg h0, ite_self]
    · rw [fM_term_b5, NS_sign q (by decide)]
      simp only [Option.bind_some, bz_0]
      rw [if_pos h0]
  have bad : ∀ (f z z' : Nat) (i v : Int32) (M N : Mem), CB M f → NF N f → fR_readTerm_b7 (f_rR d) (nI o) (z + 1) i M = some M ∧ fM_term_b5 (f_rM d) (z' + 1) v N = some (v, N) := by
    intro f z z' i v M N cb nf
    refine ⟨?_, ?_⟩
    · rw [fR_readTerm_b7, cb.1, if_neg (show ¬ (14 : Int32) = 42 by decide), ite_self]
    · rw [fM_term_b5, sign_NF nf]
      simp only [Option.bind_some, if_true]
  induction c with
  | zero =>
    intro i z z' M N a w v hc hz hz' hi c q ha hw hwa hle ev
    obtain ⟨z, rfl⟩ := Nat.exists_eq_succ_of_ne_zero (show z ≠ 0 by omega)
    obtain ⟨z', rfl⟩ := Nat.exists_eq_succ_of_ne_zero (show z' ≠ 0 by omega)
    have no : ∀ x, x ≠ 13 → x ≠ 14 → ¬ tokC n T a = x := by
      intro x h1 h2 e
      have := tok_len c.2.1 (by rw [e]; exact h1) (by rw [e]; exact h2)
      omega
    exact stop i z z' M N a w v (no _ (by decide) (by decide)) c q ha hw hwa ev
  | succ c0 ih =>
    intro i z z' M N a w v hc hz hz' hi c q ha hw hwa hle ev
    obtain ⟨z, rfl⟩ := Nat.exists_eq_succ_of_ne_zero (show z ≠ 0 by omega)
    obtain ⟨z', rfl⟩ := Nat.exists_eq_succ_of_ne_zero (show z' ≠ 0 by omega)
    have hn := c.1.2.1
    obtain ⟨z, rfl⟩ := Nat.exists_eq_succ_of_ne_zero (show z ≠ 0 by omega)
    obtain ⟨z', rfl⟩ := Nat.exists_eq_succ_of_ne_zero (show z' ≠ 0 by omega)
    by_cases h0 : tokC n T a = 42
    · have tl := tok_len c.2.1 (by rw [h0]; decide) (by rw [h0]; decide)
      obtain ⟨M2, N2, M3, N3, u, M4, e1, e2, e3, e4, e5, k4, r3, res⟩ := stepL hB R (s := 42) c q (by rw [h0]; decide) (by rw [h0]; decide) ha hw hwa hle ev (by decide)
      have hcl : fR_readTerm_b7 (f_rR d) (nI o) (z + 1 + 1) (nI i) M = fR_readTerm_b7 (f_rR d) (nI o) (z + 1) (nI (i + 1)) M4 := by
        rw [fR_readTerm_b7, if_neg (by rw [show (160 : Int32) = nI 160 from rfl, n_le (by omega) (by omega)]; omega), c.2.2.2.2.1, if_pos h0]
        rw [e1]
        simp only [Option.bind_some]
        rw [e3]
        simp only [Option.bind_some]
        rw [show (-42 : Int32) = -42 from rfl, e5]
        simp only [Option.bind_some, nI_1]
      have hmo : fM_term_b5 (f_rM d) (z' + 1 + 1) v N = fM_term_b5 (f_rM d) (z' + 1) (jn 42 v u) N3 := by
        rw [fM_term_b5, NS_sign q (by decide)]
        simp only [Option.bind_some, bz_0]
        rw [if_neg (fun w => w h0), e2]
        simp only [Option.bind_some]
        rw [e4]
        simp only [Option.bind_some]
        rfl
      rw [hcl, hmo]
      rcases res with ⟨a4, w4, c4, q4, x1, x2, x3, x4, ev4, p4⟩ | ⟨f, f1, f2, f3⟩
      · obtain ⟨M', N', v', y1, y2, y3⟩ := ih (i + 1) (z + 1) (z' + 1) M4 N3 a4 w4 _ (by omega) (by omega) (by omega) (by omega) c4 q4 (by omega) x2 x3 x4 (ev4.nm (fun j hj => (nmN_keep r3 j hj).symm))
        exact ⟨M', N', v', y1, y2, y3.pre k4 r3 p4⟩
      · obtain ⟨y1, y2⟩ := bad f z z' (nI (i + 1)) (jn 42 v u) M4 N3 f1 f2
        exact ⟨M4, N3, _, y1, y2, k4, r3, Or.inr ⟨f, f1, f2, f3⟩⟩
    exact stop i (z + 1) (z' + 1) M N a w v h0 c q ha hw hwa ev
theorem loop_sum {n t : Nat} {T : Stk} {d o a0 w0 : Nat} (hB : ∀ i, i < n → 0 ≤ (T i).toInt) (R : Rule n t T d 4 o) : ∀ (c i z z' : Nat) (M N : Mem) (a w : Nat) (v : Int32), n - a ≤ c → c < z → c < z' → i ≤ a → CS n T M a w → NS n t T N a (nI o) → a0 < a → w0 < w → w + a0 ≤ w0 + a → w ≤ a → Ev (nmN N) (M 42) w0 w v → ∃ M' N' v', fR_readSum_b7 (f_rR d) (nI o) z (nI i) M = some M' ∧ fM_added_b5 (f_rM d) z' v N = some (v', N') ∧ Out n t T M N M' N' a0 w0 o v' := by
  intro c
  have stop : ∀ (i z z' : Nat) (M N : Mem) (a w : Nat) (v : Int32), ¬ tokC n T a = 43 → ¬ tokC n T a = 45 → CS n T M a w → NS n t T N a (nI o) → a0 < a → w0 < w → w + a0 ≤ w0 + a → Ev (nmN N) (M 42) w0 w v → ∃ M' N' v', fR_readSum_b7 (f_rR d) (nI o) (z + 1) (nI i) M = some M' ∧ fM_added_b5 (f_rM d) (z' + 1) v N = some (v', N') ∧ Out n t T M N M' N' a0 w0 o v' := by
    intro i z z' M N a w v h0 h1 c q ha hw hwa ev
    refine ⟨M, N, v, ?_, ?_, Out.stay c q ha hw hwa ev⟩
    · rw [fR_readSum_b7, c.2.2.2.2.1, if_neg h0, if_neg h1, ite_self]
    · rw [fM_added_b5, NS_sign q (by decide)]
      simp only [Option.bind_some, bz_0]
      rw [if_pos h0, NS_sign q (by decide)]
      simp only [Option.bind_some, bz_0]
      rw [if_pos h1]
  have bad : ∀ (f z z' : Nat) (i v : Int32) (M N : Mem), CB M f → NF N f → fR_readSum_b7 (f_rR d) (nI o) (z + 1) i M = some M ∧ fM_added_b5 (f_rM d) (z' + 1) v N = some (v, N) := by
    intro f z z' i v M N cb nf
    refine ⟨?_, ?_⟩
    · rw [fR_readSum_b7, cb.1, if_neg (show ¬ (14 : Int32) = 43 by decide), if_neg (show ¬ (14 : Int32) = 45 by decide), ite_self]
    · rw [fM_added_b5, sign_NF nf]
      simp only [Option.bind_some, if_true]
      rw [sign_NF nf]
      simp only [Option.bind_some, if_true]
  induction c with
  | zero =>
    intro i z z' M N a w v hc hz hz' hi c q ha hw hwa hle ev
    obtain ⟨z, rfl⟩ := Nat.exists_eq_succ_of_ne_zero (show z ≠ 0 by omega)
    obtain ⟨z', rfl⟩ := Nat.exists_eq_succ_of_ne_zero (show z' ≠ 0 by omega)
    have no : ∀ x, x ≠ 13 → x ≠ 14 → ¬ tokC n T a = x := by
      intro x h1 h2 e
      have := tok_len c.2.1 (by rw [e]; exact h1) (by rw [e]; exact h2)
      omega
    exact stop i z z' M N a w v (no _ (by decide) (by decide)) (no _ (by decide) (by decide)) c q ha hw hwa ev
  | succ c0 ih =>
    intro i z z' M N a w v hc hz hz' hi c q ha hw hwa hle ev
    obtain ⟨z, rfl⟩ := Nat.exists_eq_succ_of_ne_zero (show z ≠ 0 by omega)
    obtain ⟨z', rfl⟩ := Nat.exists_eq_succ_of_ne_zero (show z' ≠ 0 by omega)
    have hn := c.1.2.1
    obtain ⟨z, rfl⟩ := Nat.exists_eq_succ_of_ne_zero (show z ≠ 0 by omega)
    obtain ⟨z', rfl⟩ := Nat.exists_eq_succ_of_ne_zero (show z' ≠ 0 by omega)
    by_cases h0 : tokC n T a = 43
    · have tl := tok_len c.2.1 (by rw [h0]; decide) (by rw [h0]; decide)
      obtain ⟨M2, N2, M3, N3, u, M4, e1, e2, e3, e4, e5, k4, r3, res⟩ := stepL hB R (s := 43) c q (by rw [h0]; decide) (by rw [h0]; decide) ha hw hwa hle ev (by decide)
      have hcl : fR_readSum_b7 (f_rR d) (nI o) (z + 1 + 1) (nI i) M = fR_readSum_b7 (f_rR d) (nI o) (z + 1) (nI (i + 1)) M4 := by
        rw [fR_readSum_b7, if_neg (by rw [show (160 : Int32) = nI 160 from rfl, n_le (by omega) (by omega)]; omega), c.2.2.2.2.1, if_pos h0]
        unfold fR_readSum_b32
        rw [e1]
        simp only [Option.bind_some]
        rw [e3]
        simp only [Option.bind_some]
        rw [c.2.2.2.2.1, h0, e5]
        simp only [Option.bind_some, nI_1]
      have hmo : fM_added_b5 (f_rM d) (z' + 1 + 1) v N = fM_added_b5 (f_rM d) (z' + 1) (jn 43 v u) N3 := by
        have tk := (tok_sg (n := n) (T := T) (a := a) (show cSg 43 = true by decide)).mp h0
        rw [fM_added_b5, NS_sign q (by decide)]
        simp only [Option.bind_some, bz_0]
        rw [if_neg (fun w => w h0)]
        unfold fM_added_b23 fM_added_b39 fM_added_b62
        rw [q.2.2.2.2.2.1 tk.1, tk.2, if_pos (by decide), e2]
        simp only [Option.bind_some]
        rw [e4]
        simp only [Option.bind_some]
        rw [if_neg (by decide)]
        rfl
      rw [hcl, hmo]
      rcases res with ⟨a4, w4, c4, q4, x1, x2, x3, x4, ev4, p4⟩ | ⟨f, f1, f2, f3⟩
      · obtain ⟨M', N', v', y1, y2, y3⟩ := ih (i + 1) (z + 1) (z' + 1) M4 N3 a4 w4 _ (by omega) (by omega) (by omega) (by omega) c4 q4 (by omega) x2 x3 x4 (ev4.nm (fun j hj => (nmN_keep r3 j hj).symm))
        exact ⟨M', N', v', y1, y2, y3.pre k4 r3 p4⟩
      · obtain ⟨y1, y2⟩ := bad f z z' (nI (i + 1)) (jn 43 v u) M4 N3 f1 f2
        exact ⟨M4, N3, _, y1, y2, k4, r3, Or.inr ⟨f, f1, f2, f3⟩⟩
    by_cases h1 : tokC n T a = 45
    · have tl := tok_len c.2.1 (by rw [h1]; decide) (by rw [h1]; decide)
      obtain ⟨M2, N2, M3, N3, u, M4, e1, e2, e3, e4, e5, k4, r3, res⟩ := stepL hB R (s := 45) c q (by rw [h1]; decide) (by rw [h1]; decide) ha hw hwa hle ev (by decide)
      have hcl : fR_readSum_b7 (f_rR d) (nI o) (z + 1 + 1) (nI i) M = fR_readSum_b7 (f_rR d) (nI o) (z + 1) (nI (i + 1)) M4 := by
        rw [fR_readSum_b7, if_neg (by rw [show (160 : Int32) = nI 160 from rfl, n_le (by omega) (by omega)]; omega), c.2.2.2.2.1, if_neg h0, if_pos h1]
        unfold fR_readSum_b32
        rw [e1]
        simp only [Option.bind_some]
        rw [e3]
        simp only [Option.bind_some]
        rw [c.2.2.2.2.1, h1, e5]
        simp only [Option.bind_some, nI_1]
      have hmo : fM_added_b5 (f_rM d) (z' + 1 + 1) v N = fM_added_b5 (f_rM d) (z' + 1) (jn 45 v u) N3 := by
        have tk := (tok_sg (n := n) (T := T) (a := a) (show cSg 45 = true by decide)).mp h1
        rw [fM_added_b5, NS_sign q (by decide)]
        simp only [Option.bind_some, bz_0]
        rw [if_pos h0, NS_sign q (by decide)]
        simp only [Option.bind_some, bz_0]
        rw [if_neg (fun w => w h1)]
        unfold fM_added_b23 fM_added_b39 fM_added_b62
        rw [q.2.2.2.2.2.1 tk.1, tk.2, if_neg (by decide), e2]
        simp only [Option.bind_some]
        rw [e4]
        simp only [Option.bind_some]
        rw [if_pos trivial]
        rfl
      rw [hcl, hmo]
      rcases res with ⟨a4, w4, c4, q4, x1, x2, x3, x4, ev4, p4⟩ | ⟨f, f1, f2, f3⟩
      · obtain ⟨M', N', v', y1, y2, y3⟩ := ih (i + 1) (z + 1) (z' + 1) M4 N3 a4 w4 _ (by omega) (by omega) (by omega) (by omega) c4 q4 (by omega) x2 x3 x4 (ev4.nm (fun j hj => (nmN_keep r3 j hj).symm))
        exact ⟨M', N', v', y1, y2, y3.pre k4 r3 p4⟩
      · obtain ⟨y1, y2⟩ := bad f z z' (nI (i + 1)) (jn 45 v u) M4 N3 f1 f2
        exact ⟨M4, N3, _, y1, y2, k4, r3, Or.inr ⟨f, f1, f2, f3⟩⟩
    exact stop i (z + 1) (z' + 1) M N a w v h0 h1 c q ha hw hwa ev
theorem loop_both {n t : Nat} {T : Stk} {d o a0 w0 : Nat} (hB : ∀ i, i < n → 0 ≤ (T i).toInt) (R : Rule n t T d 2 o) : ∀ (c i z z' : Nat) (M N : Mem) (a w : Nat) (v : Int32), n - a ≤ c → c < z → c < z' → i ≤ a → CS n T M a w → NS n t T N a (nI o) → a0 < a → w0 < w → w + a0 ≤ w0 + a → w ≤ a → Ev (nmN N) (M 42) w0 w v → ∃ M' N' v', fR_readBoth_b7 (f_rR d) (nI o) z (nI i) M = some M' ∧ fM_both_b5 (f_rM d) z' v N = some (v', N') ∧ Out n t T M N M' N' a0 w0 o v' := by
  intro c
  have stop : ∀ (i z z' : Nat) (M N : Mem) (a w : Nat) (v : Int32), ¬ tokC n T a = 10 → CS n T M a w → NS n t T N a (nI o) → a0 < a → w0 < w → w + a0 ≤ w0 + a → Ev (nmN N) (M 42) w0 w v → ∃ M' N' v', fR_readBoth_b7 (f_rR d) (nI o) (z + 1) (nI i) M = some M' ∧ fM_both_b5 (f_rM d) (z' + 1) v N = some (v', N') ∧ Out n t T M N M' N' a0 w0 o v' := by
    intro i z z' M N a w v h0 c q ha hw hwa ev
    refine ⟨M, N, v, ?_, ?_, Out.stay c q ha hw hwa ev⟩
    · rw [fR_readBoth_b7, c.2.2.2.2.1, if_neg h0, ite_self]
    · have hq := NS_w10 hB q c.2.1
      rw [fM_both_b5, hq]
      simp only [Option.bind_some, bz_0]
      rw [if_pos h0]
  have bad : ∀ (f z z' : Nat) (i v : Int32) (M N : Mem), CB M f → NF N f → fR_readBoth_b7 (f_rR d) (nI o) (z + 1) i M = some M ∧ fM_both_b5 (f_rM d) (z' + 1) v N = some (v, N) := by
    intro f z z' i v M N cb nf
    refine ⟨?_, ?_⟩
    · rw [fR_readBoth_b7, cb.1, if_neg (show ¬ (14 : Int32) = 10 by decide), ite_self]
    · rw [fM_both_b5, word_NF nf]
      simp only [Option.bind_some, if_true]
  induction c with
  | zero =>
    intro i z z' M N a w v hc hz hz' hi c q ha hw hwa hle ev
    obtain ⟨z, rfl⟩ := Nat.exists_eq_succ_of_ne_zero (show z ≠ 0 by omega)
    obtain ⟨z', rfl⟩ := Nat.exists_eq_succ_of_ne_zero (show z' ≠ 0 by omega)
    have no : ∀ x, x ≠ 13 → x ≠ 14 → ¬ tokC n T a = x := by
      intro x h1 h2 e
      have := tok_len c.2.1 (by rw [e]; exact h1) (by rw [e]; exact h2)
      omega
    exact stop i z z' M N a w v (no _ (by decide) (by decide)) c q ha hw hwa ev
  | succ c0 ih =>
    intro i z z' M N a w v hc hz hz' hi c q ha hw hwa hle ev
    obtain ⟨z, rfl⟩ := Nat.exists_eq_succ_of_ne_zero (show z ≠ 0 by omega)
    obtain ⟨z', rfl⟩ := Nat.exists_eq_succ_of_ne_zero (show z' ≠ 0 by omega)
    have hn := c.1.2.1
    obtain ⟨z, rfl⟩ := Nat.exists_eq_succ_of_ne_zero (show z ≠ 0 by omega)
    obtain ⟨z', rfl⟩ := Nat.exists_eq_succ_of_ne_zero (show z' ≠ 0 by omega)
    by_cases h0 : tokC n T a = 10
    · have tl := tok_len c.2.1 (by rw [h0]; decide) (by rw [h0]; decide)
      obtain ⟨M2, N2, M3, N3, u, M4, e1, e2, e3, e4, e5, k4, r3, res⟩ := stepL hB R (s := 10) c q (by rw [h0]; decide) (by rw [h0]; decide) ha hw hwa hle ev (by decide)
      have hcl : fR_readBoth_b7 (f_rR d) (nI o) (z + 1 + 1) (nI i) M = fR_readBoth_b7 (f_rR d) (nI o) (z + 1) (nI (i + 1)) M4 := by
        rw [fR_readBoth_b7, if_neg (by rw [show (160 : Int32) = nI 160 from rfl, n_le (by omega) (by omega)]; omega), c.2.2.2.2.1, if_pos h0]
        rw [e1]
        simp only [Option.bind_some]
        rw [e3]
        simp only [Option.bind_some]
        rw [show (-10 : Int32) = -10 from rfl, e5]
        simp only [Option.bind_some, nI_1]
      have hmo : fM_both_b5 (f_rM d) (z' + 1 + 1) v N = fM_both_b5 (f_rM d) (z' + 1) (jn 10 v u) N3 := by
        have hq := NS_w10 hB q c.2.1
        rw [fM_both_b5, hq]
        simp only [Option.bind_some, bz_0]
        rw [if_neg (fun w => w h0), e2]
        simp only [Option.bind_some]
        rw [e4]
        simp only [Option.bind_some]
        unfold fM_both_b44 fM_both_b45 jn
        rw [if_pos rfl]
        by_cases g1 : v = 0
        · rw [if_pos g1, if_neg (fun w => w.1 g1)]
        · rw [if_neg g1]
          by_cases g2 : u = 0
          · rw [if_pos g2, if_neg (fun w => w.2 g2)]
          · rw [if_neg g2, if_pos ⟨g1, g2⟩]
      rw [hcl, hmo]
      rcases res with ⟨a4, w4, c4, q4, x1, x2, x3, x4, ev4, p4⟩ | ⟨f, f1, f2, f3⟩
      · obtain ⟨M', N', v', y1, y2, y3⟩ := ih (i + 1) (z + 1) (z' + 1) M4 N3 a4 w4 _ (by omega) (by omega) (by omega) (by omega) c4 q4 (by omega) x2 x3 x4 (ev4.nm (fun j hj => (nmN_keep r3 j hj).symm))
        exact ⟨M', N', v', y1, y2, y3.pre k4 r3 p4⟩
      · obtain ⟨y1, y2⟩ := bad f z z' (nI (i + 1)) (jn 10 v u) M4 N3 f1 f2
        exact ⟨M4, N3, _, y1, y2, k4, r3, Or.inr ⟨f, f1, f2, f3⟩⟩
    exact stop i (z + 1) (z' + 1) M N a w v h0 c q ha hw hwa ev
theorem loop_either {n t : Nat} {T : Stk} {d o a0 w0 : Nat} (hB : ∀ i, i < n → 0 ≤ (T i).toInt) (R : Rule n t T d 1 o) : ∀ (c i z z' : Nat) (M N : Mem) (a w : Nat) (v : Int32), n - a ≤ c → c < z → c < z' → i ≤ a → CS n T M a w → NS n t T N a (nI o) → a0 < a → w0 < w → w + a0 ≤ w0 + a → w ≤ a → Ev (nmN N) (M 42) w0 w v → ∃ M' N' v', fR_readEither_b7 (f_rR d) (nI o) z (nI i) M = some M' ∧ fM_either_b5 (f_rM d) z' v N = some (v', N') ∧ Out n t T M N M' N' a0 w0 o v' := by
  intro c
  have stop : ∀ (i z z' : Nat) (M N : Mem) (a w : Nat) (v : Int32), ¬ tokC n T a = 9 → CS n T M a w → NS n t T N a (nI o) → a0 < a → w0 < w → w + a0 ≤ w0 + a → Ev (nmN N) (M 42) w0 w v → ∃ M' N' v', fR_readEither_b7 (f_rR d) (nI o) (z + 1) (nI i) M = some M' ∧ fM_either_b5 (f_rM d) (z' + 1) v N = some (v', N') ∧ Out n t T M N M' N' a0 w0 o v' := by
    intro i z z' M N a w v h0 c q ha hw hwa ev
    refine ⟨M, N, v, ?_, ?_, Out.stay c q ha hw hwa ev⟩
    · rw [fR_readEither_b7, c.2.2.2.2.1, if_neg h0, ite_self]
    · have hq := NS_w9 hB q c.2.1
      rw [fM_either_b5, hq]
      simp only [Option.bind_some, bz_0]
      rw [if_pos h0]
  have bad : ∀ (f z z' : Nat) (i v : Int32) (M N : Mem), CB M f → NF N f → fR_readEither_b7 (f_rR d) (nI o) (z + 1) i M = some M ∧ fM_either_b5 (f_rM d) (z' + 1) v N = some (v, N) := by
    intro f z z' i v M N cb nf
    refine ⟨?_, ?_⟩
    · rw [fR_readEither_b7, cb.1, if_neg (show ¬ (14 : Int32) = 9 by decide), ite_self]
    · rw [fM_either_b5, word_NF nf]
      simp only [Option.bind_some, if_true]
  induction c with
  | zero =>
    intro i z z' M N a w v hc hz hz' hi c q ha hw hwa hle ev
    obtain ⟨z, rfl⟩ := Nat.exists_eq_succ_of_ne_zero (show z ≠ 0 by omega)
    obtain ⟨z', rfl⟩ := Nat.exists_eq_succ_of_ne_zero (show z' ≠ 0 by omega)
    have no : ∀ x, x ≠ 13 → x ≠ 14 → ¬ tokC n T a = x := by
      intro x h1 h2 e
      have := tok_len c.2.1 (by rw [e]; exact h1) (by rw [e]; exact h2)
      omega
    exact stop i z z' M N a w v (no _ (by decide) (by decide)) c q ha hw hwa ev
  | succ c0 ih =>
    intro i z z' M N a w v hc hz hz' hi c q ha hw hwa hle ev
    obtain ⟨z, rfl⟩ := Nat.exists_eq_succ_of_ne_zero (show z ≠ 0 by omega)
    obtain ⟨z', rfl⟩ := Nat.exists_eq_succ_of_ne_zero (show z' ≠ 0 by omega)
    have hn := c.1.2.1
    obtain ⟨z, rfl⟩ := Nat.exists_eq_succ_of_ne_zero (show z ≠ 0 by omega)
    obtain ⟨z', rfl⟩ := Nat.exists_eq_succ_of_ne_zero (show z' ≠ 0 by omega)
    by_cases h0 : tokC n T a = 9
    · have tl := tok_len c.2.1 (by rw [h0]; decide) (by rw [h0]; decide)
      obtain ⟨M2, N2, M3, N3, u, M4, e1, e2, e3, e4, e5, k4, r3, res⟩ := stepL hB R (s := 9) c q (by rw [h0]; decide) (by rw [h0]; decide) ha hw hwa hle ev (by decide)
      have hcl : fR_readEither_b7 (f_rR d) (nI o) (z + 1 + 1) (nI i) M = fR_readEither_b7 (f_rR d) (nI o) (z + 1) (nI (i + 1)) M4 := by
        rw [fR_readEither_b7, if_neg (by rw [show (160 : Int32) = nI 160 from rfl, n_le (by omega) (by omega)]; omega), c.2.2.2.2.1, if_pos h0]
        rw [e1]
        simp only [Option.bind_some]
        rw [e3]
        simp only [Option.bind_some]
        rw [show (-9 : Int32) = -9 from rfl, e5]
        simp only [Option.bind_some, nI_1]
      have hmo : fM_either_b5 (f_rM d) (z' + 1 + 1) v N = fM_either_b5 (f_rM d) (z' + 1) (jn 9 v u) N3 := by
        have hq := NS_w9 hB q c.2.1
        rw [fM_either_b5, hq]
        simp only [Option.bind_some, bz_0]
        rw [if_neg (fun w => w h0), e2]
        simp only [Option.bind_some]
        rw [e4]
        simp only [Option.bind_some]
        unfold fM_either_b39 fM_either_b44
        rw [show jn 9 v u = (if v ≠ 0 ∨ u ≠ 0 then 1 else 0) from rfl]
        by_cases g1 : v = 0
        · rw [if_pos g1]
          by_cases g2 : u = 0
          · rw [if_pos g2, if_neg (by rintro (w | w); exact w g1; exact w g2)]
          · rw [if_neg g2, if_pos (Or.inr g2)]
        · rw [if_neg g1, if_pos (Or.inl g1)]
      rw [hcl, hmo]
      rcases res with ⟨a4, w4, c4, q4, x1, x2, x3, x4, ev4, p4⟩ | ⟨f, f1, f2, f3⟩
      · obtain ⟨M', N', v', y1, y2, y3⟩ := ih (i + 1) (z + 1) (z' + 1) M4 N3 a4 w4 _ (by omega) (by omega) (by omega) (by omega) c4 q4 (by omega) x2 x3 x4 (ev4.nm (fun j hj => (nmN_keep r3 j hj).symm))
        exact ⟨M', N', v', y1, y2, y3.pre k4 r3 p4⟩
      · obtain ⟨y1, y2⟩ := bad f z z' (nI (i + 1)) (jn 9 v u) M4 N3 f1 f2
        exact ⟨M4, N3, _, y1, y2, k4, r3, Or.inr ⟨f, f1, f2, f3⟩⟩
    exact stop i (z + 1) (z' + 1) M N a w v h0 c q ha hw hwa ev
end
section
/-! 36: the rules -/
theorem rR0 {d : Nat} {a : Int32} {M : Mem} : f_rR (d + 1) 0 a M = fR_readEither (f_rR d) a M := rfl
theorem rR1 {d : Nat} {a : Int32} {M : Mem} : f_rR (d + 1) 1 a M = fR_readBoth (f_rR d) a M := rfl
theorem rR2 {d : Nat} {a : Int32} {M : Mem} : f_rR (d + 1) 2 a M = fR_readNot (f_rR d) a M := rfl
theorem rR3 {d : Nat} {a : Int32} {M : Mem} : f_rR (d + 1) 3 a M = fR_readSum (f_rR d) a M := rfl
theorem rR4 {d : Nat} {a : Int32} {M : Mem} : f_rR (d + 1) 4 a M = fR_readTerm (f_rR d) a M := rfl
theorem rR5 {d : Nat} {a : Int32} {M : Mem} : f_rR (d + 1) 5 a M = fR_readOne (f_rR d) a M := rfl
theorem rM0 {d : Nat} {N : Mem} : f_rM (d + 1) 0 N = fM_either (f_rM d) N := rfl
theorem rM1 {d : Nat} {N : Mem} : f_rM (d + 1) 1 N = fM_both (f_rM d) N := rfl
theorem rM2 {d : Nat} {N : Mem} : f_rM (d + 1) 2 N = fM_not (f_rM d) N := rfl
theorem rM3 {d : Nat} {N : Mem} : f_rM (d + 1) 3 N = fM_added (f_rM d) N := rfl
theorem rM4 {d : Nat} {N : Mem} : f_rM (d + 1) 4 N = fM_term (f_rM d) N := rfl
theorem rM5 {d : Nat} {N : Mem} : f_rM (d + 1) 5 N = fM_atom (f_rM d) N := rfl
theorem num_pos {n : Nat} {T : Stk} {a : Nat} (h : tokC n T a = 12) : 0 ≤ (numT n T a).toInt := by
  unfold tokC at h
  by_cases hc : a < n
  · rw [if_pos hc] at h
    by_cases hl : cLt (T a) = true
    · rw [if_pos hl, show (12 : Int32) = nI 12 from rfl] at h
      have := wd_bd (T := T) (a := a) (e := rn cLt n T a)
      rw [n_eq (by omega) (by omega)] at h
      omega
    · rw [if_neg hl] at h
      by_cases hd : cDg (T a) = true
      · rw [if_pos hd] at h
        by_cases h4 : rn cDg n T a - a ≤ 4
        · exact (numT_eq (by omega) h4).2
        · rw [if_neg h4] at h; exact absurd h (by decide)
      · rw [if_neg hd] at h
        by_cases hs : cSg (T a) = true
        · rw [if_pos hs] at h
          rw [h] at hs; exact absurd hs (by decide)
        · rw [if_neg hs] at h; exact absurd h (by decide)
  · rw [if_neg hc] at h; exact absurd h (by decide)
theorem name_eq {n t : Nat} {T : Stk} {N : Mem} {a w : Nat} {o : Int32} (hB : ∀ i, i < n → 0 ≤ (T i).toInt) (q : NS n t T N a o) (ha : a ≤ n) (hw : w < 6) (h : tokC n T a = nI w) : fM_name N = some (N 85 (21 + w), N) := by
  unfold fM_name
  have w0 := NS_w0 hB q ha
  have w1 := NS_w1 hB q ha
  have w2 := NS_w2 hB q ha
  have w3 := NS_w3 hB q ha
  have w4 := NS_w4 hB q ha
  have w5 := NS_w5 hB q ha
  rw [h] at w0 w1 w2 w3 w4 w5
  have y : ∀ (j : Nat) (x : Int32) (p : w = j), (if (bz (nI w = x)) = 0 then (0 : Int32) else 0) = 0 := fun _ _ _ => by split <;> rfl
  rcases (by omega : w = 0 ∨ w = 1 ∨ w = 2 ∨ w = 3 ∨ w = 4 ∨ w = 5) with rfl | rfl | rfl | rfl | rfl | rfl
  · rw [bz, if_pos (by decide)] at w0
    simp only [w0, Option.bind_some, show ¬ (1 : Int32) = 0 by decide, if_false]
  · rw [bz, if_neg (by decide)] at w0
    rw [bz, if_pos (by decide)] at w1
    simp only [w0, w1, Option.bind_some, show ¬ (1 : Int32) = 0 by decide, if_false, if_true]
  · rw [bz, if_neg (by decide)] at w0 w1
    rw [bz, if_pos (by decide)] at w2
    simp only [w0, w1, w2, Option.bind_some, show ¬ (1 : Int32) = 0 by decide, if_false, if_true]
  · rw [bz, if_neg (by decide)] at w0 w1 w2
    rw [bz, if_pos (by decide)] at w3
    simp only [w0, w1, w2, w3, Option.bind_some, show ¬ (1 : Int32) = 0 by decide, if_false, if_true]
  · rw [bz, if_neg (by decide)] at w0 w1 w2 w3
    rw [bz, if_pos (by decide)] at w4
    simp only [w0, w1, w2, w3, w4, Option.bind_some, show ¬ (1 : Int32) = 0 by decide, if_false, if_true]
  · rw [bz, if_neg (by decide)] at w0 w1 w2 w3 w4
    rw [bz, if_pos (by decide)] at w5
    simp only [w0, w1, w2, w3, w4, w5, Option.bind_some, show ¬ (1 : Int32) = 0 by decide, if_false, if_true]
theorem name_no {n t : Nat} {T : Stk} {N : Mem} {a : Nat} {o : Int32} (hB : ∀ i, i < n → 0 ≤ (T i).toInt) (q : NS n t T N a o) (ha : a ≤ n) (h : ∀ w, w < 6 → tokC n T a ≠ nI w) : fM_name N = (fM_fail N).bind fun M7 => some (0, M7) := by
  unfold fM_name
  have w0 := NS_w0 hB q ha
  have w1 := NS_w1 hB q ha
  have w2 := NS_w2 hB q ha
  have w3 := NS_w3 hB q ha
  have w4 := NS_w4 hB q ha
  have w5 := NS_w5 hB q ha
  rw [bz, if_neg (show ¬ tokC n T a = 0 from h 0 (by decide))] at w0
  rw [bz, if_neg (show ¬ tokC n T a = 1 from h 1 (by decide))] at w1
  rw [bz, if_neg (show ¬ tokC n T a = 2 from h 2 (by decide))] at w2
  rw [bz, if_neg (show ¬ tokC n T a = 3 from h 3 (by decide))] at w3
  rw [bz, if_neg (show ¬ tokC n T a = 4 from h 4 (by decide))] at w4
  rw [bz, if_neg (show ¬ tokC n T a = 5 from h 5 (by decide))] at w5
  simp only [w0, w1, w2, w3, w4, w5, Option.bind_some, if_true]
/-- code written, a step ahead: one item said v -/
theorem one_item {n t : Nat} {T : Stk} {M N : Mem} {a r o : Nat} {c0 v : Int32} (hB : ∀ i, i < n → 0 ≤ (T i).toInt) (c : CS n T M a r) (q : NS n t T N a (nI o)) (h13 : tokC n T a ≠ 13) (h14 : tokC n T a ≠ 14) (hr : r ≤ a) (hv : (0 ≤ c0.toInt ∧ v = c0) ∨ (-6 ≤ c0.toInt ∧ c0.toInt < 0 ∧ v = nmN N (ix (-1 - c0)))) : ∃ M1 M' N', fR_write c0 M = some M1 ∧ fR_advance M1 = some M' ∧ fM_next N = some N' ∧ Out n t T M N M' N' a r o v := by
  have tl := tok_len c.2.1 h13 h14
  have hn := c.1.2.1
  obtain ⟨M1, e1, c1, m1, k1⟩ := write_CS c0 c (by omega)
  obtain ⟨M', N', a', e2, e3, c2, q2, h2, k2, r2, m2⟩ := adv_both hB c1 q h13 h14
  refine ⟨M1, M', N', e1, e2, e3, k1.trans k2, r2, Or.inl ⟨a', r + 1, c2, q2, h2, by omega, by omega, ?_, fun i hi => ?_⟩⟩
  · have hr : (M' 42) r = c0 := by rw [m2, m1, stS, if_pos rfl]
    apply Ev.one
    rw [hr]
    exact hv
  · rw [m2, m1, stS, if_neg (by omega)]
theorem rule_one {n t : Nat} {T : Stk} {d o : Nat} (hB : ∀ i, i < n → 0 ≤ (T i).toInt) (ho : o ≤ 5) (R5 : o < 5 → Rule n t T d 5 (o + 1)) (R0 : o < 5 → Rule n t T d 0 (o + 1)) : Rule n t T (d + 1) 5 o := by
  intro M N a r c q hr
  have hn := c.1.2.1
  have ha := c.2.1
  have h34 := q.2.2.2.2.2.2.1
  have h33 := q.2.2.2.2.2.2.2
  rw [rR5, rM5]
  unfold fR_readOne fM_atom
  rw [c.2.2.2.2.1]
  by_cases h12 : tokC n T a = 12
  · rw [if_pos h12, NS_sign q (by decide)]
    simp only [Option.bind_some, bz_0]
    rw [if_pos (by rw [h12]; decide), NS_sign q (by decide)]
    simp only [Option.bind_some, bz_0]
    have hk := (tok_nm hB).mp h12
    rw [if_pos (by rw [h12]; decide), if_pos h34, q.2.2.2.1, if_pos hk, q.2.2.2.2.1 hk, c.2.2.2.2.2.1 h12]
    obtain ⟨M1, M', N', e1, e2, e3, ou⟩ := one_item (c0 := numT n T a) (v := numT n T a) hB c q (by rw [h12]; decide) (by rw [h12]; decide) hr (Or.inl ⟨num_pos h12, rfl⟩)
    rw [e1]
    simp only [Option.bind_some]
    rw [e2, e3]
    exact ⟨M', N', _, rfl, rfl, ou⟩
  · rw [if_neg h12, fN_within_eq, NS_sign q (by decide)]
    simp only [Option.bind_some, bz_0]
    by_cases hw : ∃ w, w < 6 ∧ tokC n T a = nI w
    · obtain ⟨w, hw6, hw⟩ := hw
      have nlit : ∀ k : Nat, k < 200 → k ≠ w → ¬ tokC n T a = nI k := fun k hk hne z => by
        rw [hw, n_eq (by omega) (by omega)] at z
        omega
      rw [if_neg (by rw [hw, nI_t (by omega), show (6 : Int32).toInt = 6 from rfl]; omega), if_pos (show ¬ tokC n T a = 45 from nlit 45 (by omega) (by omega)), NS_sign q (by decide)]
      simp only [Option.bind_some, bz_0]
      have hk : kndT n T a = 1 := ((tok_wd hB ha (by omega)).mp hw).1
      rw [if_pos (show ¬ tokC n T a = 40 from nlit 40 (by omega) (by omega)), if_pos h34, q.2.2.2.1, if_neg (by rw [hk]; decide)]
      unfold fM_atom_b123
      rw [if_pos h34, q.2.2.2.1, if_pos hk, name_eq hB q ha hw6 hw, c.2.2.2.2.1, hw]
      simp only [Option.bind_some]
      have e1m : ((-1 : Int32) - nI w).toInt = -1 - w := by
        rw [t_sub (by rw [m1_t, nI_t (by omega)]; omega) (by rw [m1_t, nI_t (by omega)]; omega), m1_t, nI_t (by omega)]
      have e2m : (-1 : Int32) - (-1 - nI w) = nI w := by
        rw [i_eq, t_sub (by rw [m1_t, e1m]; omega) (by rw [m1_t, e1m]; omega), m1_t, e1m, nI_t (by omega)]
        omega
      obtain ⟨M1, M', N', e1, e2, e3, ou⟩ := one_item (c0 := -1 - nI w) (v := N 85 (21 + w)) hB c q (nlit 13 (by omega) (by omega)) (nlit 14 (by omega) (by omega)) hr (Or.inr ⟨by omega, by omega, by rw [e2m, ix_nI (by omega)]; rfl⟩)
      rw [if_pos h34, e1]
      simp only [Option.bind_some]
      rw [e2, e3]
      exact ⟨M', N', _, rfl, rfl, ou⟩
    · have hw' : ∀ w, w < 6 → tokC n T a ≠ nI w := fun w h1 h2 => hw ⟨w, h1, h2⟩
      rw [if_pos (by
        intro z
        rw [show (6 : Int32).toInt = 6 from rfl] at z
        exact hw ⟨ix (tokC n T a), by unfold ix; omega, (nI_ix z.1).symm⟩)]
      obtain ⟨Mr, er, cr, kr⟩ := refuse_CS c (by omega)
      obtain ⟨Nf, ef, nf, rf⟩ := fail_NS q
      have badOut : ∀ v, Out n t T M N Mr Nf a r o v := fun v => ⟨kr, rf, Or.inr ⟨a, cr, nf, ha⟩⟩
      by_cases h45 : tokC n T a = 45
      · rw [c.2.2.2.2.1, if_pos h45, if_neg (show ¬ ¬ tokC n T a = 45 from fun z => z h45)]
        unfold fM_opens
        rw [h33]
        by_cases ho5 : o = 5
        · subst ho5
          rw [if_pos (by decide), if_pos (by decide), ef]
          unfold fR_readOne_b87 fR_readOne_b121
          rw [c.2.2.2.2.1, if_neg (by rw [h45]; decide), er]
          simp only [Option.bind_some, if_true]
          exact ⟨Mr, Nf, 0, rfl, rfl, badOut 0⟩
        · rw [if_neg (by rw [show (5 : Int32) = nI 5 from rfl, n_le (by omega) (by omega)]; omega), if_neg (by rw [show (5 : Int32) = nI 5 from rfl, n_eq (by omega) (by omega)]; omega), nI_1]
          obtain ⟨M2, N2, a2, e1, e2, c2, q2, h2, k2, r2, m2⟩ := adv_both hB c (q.o (nI (o + 1))) (by rw [h45]; decide) (by rw [h45]; decide)
          obtain ⟨M3, N3, v, e3, e4, k3, r3, h3⟩ := R5 (by omega) M2 N2 a2 r c2 q2 (by omega)
          rw [e1, e2]
          simp only [Option.bind_some]
          rw [if_neg (by decide), e3, e4]
          simp only [Option.bind_some]
          have kN : KeepR N (wr N3 85 33 (N3 85 33 - 1)) := ((KeepR.put (by omega)).trans (r2.trans r3)).trans (KeepR.put (by omega))
          rcases h3 with ⟨a3, w3, c3, q3, x1, x2, x3, ev3, p3⟩ | ⟨f, f1, f2, f3⟩
          · have hn3 := c3.2.1
            obtain ⟨M4, e5, c4, m4, k4⟩ := write_CS (-12) c3 (by omega)
            rw [e5]
            simp only [Option.bind_some]
            refine ⟨M4, _, -v, rfl, rfl, (k2.trans k3).trans k4, kN, Or.inl ⟨a3, w3 + 1, c4, ?_, by omega, by omega, by omega, ?_, fun i hi => ?_⟩⟩
            · rw [q3.2.2.2.2.2.2.2, nI_pd (by omega), Nat.add_sub_cancel]
              exact q3.o _
            · refine Ev.un (v := v) ((ev3.congr (by omega) (fun i h5 h6 => by rw [m4, stS, if_neg (by omega)])).nm (nmN_keep ((KeepR.put (by omega)).trans r2))) (by omega) (Or.inl ⟨by rw [m4, stS, if_pos rfl], rfl⟩)
            · rw [m4, stS, if_neg (by omega), p3 i hi, m2]
          · obtain ⟨M4, e5, c4, k4⟩ := write_CB (-12) f1
            rw [e5]
            simp only [Option.bind_some]
            exact ⟨M4, _, -v, rfl, rfl, (k2.trans k3).trans k4, kN, Or.inr ⟨f, c4, f2.o _, f3⟩⟩
      · rw [if_pos h45, c.2.2.2.2.1, if_neg h45, NS_sign q (by decide)]
        simp only [Option.bind_some, bz_0]
        unfold fR_readOne_b87 fR_readOne_b121
        rw [c.2.2.2.2.1]
        by_cases h40 : tokC n T a = 40
        · rw [if_pos h40, if_neg (show ¬ ¬ tokC n T a = 40 from fun z => z h40)]
          unfold fM_opens
          rw [h33]
          by_cases ho5 : o = 5
          · subst ho5
            rw [if_pos (by decide), if_pos (by decide), ef, er]
            simp only [Option.bind_some, if_true]
            exact ⟨Mr, Nf, 0, rfl, rfl, badOut 0⟩
          · rw [if_neg (by rw [show (5 : Int32) = nI 5 from rfl, n_le (by omega) (by omega)]; omega), if_neg (by rw [show (5 : Int32) = nI 5 from rfl, n_eq (by omega) (by omega)]; omega), nI_1]
            obtain ⟨M2, N2, a2, e1, e2, c2, q2, h2, k2, r2, m2⟩ := adv_both hB c (q.o (nI (o + 1))) (by rw [h40]; decide) (by rw [h40]; decide)
            obtain ⟨M3, N3, v, e3, e4, k3, r3, h3⟩ := R0 (by omega) M2 N2 a2 r c2 q2 (by omega)
            rw [e1, e2]
            simp only [Option.bind_some]
            rw [if_neg (by decide), e3, e4]
            simp only [Option.bind_some]
            have kN : KeepR N N3 := (KeepR.put (by omega)).trans (r2.trans r3)
            rcases h3 with ⟨a3, w3, c3, q3, x1, x2, x3, ev3, p3⟩ | ⟨f, f1, f2, f3⟩
            · have hn3 := c3.2.1
              rw [NS_sign q3 (by decide)]
              simp only [Option.bind_some, bz_0]
              unfold fR_expect fM_atom_b71
              rw [c3.2.2.2.2.1]
              by_cases h41 : tokC n T a3 = 41
              · rw [if_pos h41, if_neg (by decide), if_neg (fun z => z h41), wr_at (show 34 ≠ 33 by decide), if_pos q3.2.2.2.2.2.2.1, q3.2.2.2.2.2.2.2, nI_pd (by omega), Nat.add_sub_cancel]
                obtain ⟨M5, N5, a5, e6, e7, c5, q5, h5, k5, r5, m5⟩ := adv_both hB c3 (q3.o (nI o)) (by rw [h41]; decide) (by rw [h41]; decide)
                rw [e6, e7]
                simp only [Option.bind_some]
                refine ⟨M5, N5, v, rfl, rfl, (k2.trans k3).trans k5, (kN.trans (KeepR.put (by omega))).trans r5, Or.inl ⟨a5, w3, c5, q5, by omega, by omega, by omega, ?_, fun i hi => ?_⟩⟩
                · rw [m5]; exact ev3.nm (nmN_keep ((KeepR.put (by omega)).trans r2))
                · rw [m5, p3 i hi, m2]
              · rw [if_neg h41, if_pos h41]
                obtain ⟨M4, e5, c4, k4⟩ := refuse_CS c3 (by omega)
                obtain ⟨N4, e6, n4, r4⟩ := fail_NS q3
                rw [e5, e6]
                simp only [Option.bind_some]
                rw [wr_at (show 34 ≠ 33 by decide), n4.1, if_neg (by decide)]
                exact ⟨M4, _, v, rfl, rfl, (k2.trans k3).trans k4, (kN.trans r4).trans (KeepR.put (by omega)), Or.inr ⟨a3, c4, n4.o _, hn3⟩⟩
            · rw [sign_NF f2]
              unfold fR_expect fM_atom_b71
              rw [f1.1, if_neg (by decide), refuse_CB f1]
              simp only [Option.bind_some, if_true]
              rw [fail_NF f2]
              simp only [Option.bind_some]
              rw [wr_at (show 34 ≠ 33 by decide), f2.1, if_neg (by decide)]
              exact ⟨M3, _, v, rfl, rfl, k2.trans k3, kN.trans (KeepR.put (by omega)), Or.inr ⟨f, f1, f2.o _, f3⟩⟩
        · rw [if_pos h40, if_neg h40, if_pos h34, er]
          simp only [Option.bind_some]
          have hk2 : ¬ N 85 30 = 2 := by rw [q.2.2.2.1]; exact fun z => h12 ((tok_nm hB).mpr z)
          rw [if_neg hk2]
          unfold fM_atom_b123 fM_atom_b157
          rw [if_pos h34]
          by_cases hk1 : N 85 30 = 1
          · rw [if_pos hk1, name_no hB q ha hw', ef]
            simp only [Option.bind_some]
            rw [nf.1, if_neg (by decide)]
            exact ⟨Mr, Nf, 0, rfl, rfl, badOut 0⟩
          · rw [if_neg hk1, ef]
            simp only [Option.bind_some]
            exact ⟨Mr, Nf, 0, rfl, rfl, badOut 0⟩
end
section
/-! 37: the other rules, all by depth -/
theorem rule_term {n t : Nat} {T : Stk} {d o : Nat} (hB : ∀ i, i < n → 0 ≤ (T i).toInt) (R : Rule n t T d 5 o) : Rule n t T (d + 1) 4 o := by
  intro M N a r c q hr
  have hn := c.1.2.1
  rw [rR4, rM4]
  unfold fR_readTerm fM_term
  obtain ⟨M1, N1, v, e1, e2, k1, r1, h1⟩ := R M N a r c q hr
  rw [e1, e2]
  simp only [Option.bind_some]
  rcases h1 with ⟨a1, w1, c1, q1, x1, x2, x3, ev1, p1⟩ | ⟨f, f1, f2, f3⟩
  · obtain ⟨M', N', v', y1, y2, y3⟩ := loop_term hB R n 0 1000 1000 M1 N1 a1 w1 v (by omega) (by omega) (by omega) (by omega) c1 q1 x1 x2 x3 (by omega) (ev1.nm (fun j hj => (nmN_keep r1 j hj).symm))
    exact ⟨M', N', v', y1, y2, y3.pre k1 r1 p1⟩
  · refine ⟨M1, N1, v, ?_, ?_, k1, r1, Or.inr ⟨f, f1, f2, f3⟩⟩
    · show fR_readTerm_b7 (f_rR d) (nI o) (999 + 1) 0 M1 = some M1
      rw [fR_readTerm_b7, f1.1, if_neg (show ¬ (14 : Int32) = 42 by decide), ite_self]
    · show fM_term_b5 (f_rM d) (999 + 1) v N1 = some (v, N1)
      rw [fM_term_b5, sign_NF f2]
      simp only [Option.bind_some, if_true]
theorem rule_sum {n t : Nat} {T : Stk} {d o : Nat} (hB : ∀ i, i < n → 0 ≤ (T i).toInt) (R : Rule n t T d 4 o) : Rule n t T (d + 1) 3 o := by
  intro M N a r c q hr
  have hn := c.1.2.1
  rw [rR3, rM3]
  unfold fR_readSum fM_added
  obtain ⟨M1, N1, v, e1, e2, k1, r1, h1⟩ := R M N a r c q hr
  rw [e1, e2]
  simp only [Option.bind_some]
  rcases h1 with ⟨a1, w1, c1, q1, x1, x2, x3, ev1, p1⟩ | ⟨f, f1, f2, f3⟩
  · obtain ⟨M', N', v', y1, y2, y3⟩ := loop_sum hB R n 0 1000 1000 M1 N1 a1 w1 v (by omega) (by omega) (by omega) (by omega) c1 q1 x1 x2 x3 (by omega) (ev1.nm (fun j hj => (nmN_keep r1 j hj).symm))
    exact ⟨M', N', v', y1, y2, y3.pre k1 r1 p1⟩
  · refine ⟨M1, N1, v, ?_, ?_, k1, r1, Or.inr ⟨f, f1, f2, f3⟩⟩
    · show fR_readSum_b7 (f_rR d) (nI o) (999 + 1) 0 M1 = some M1
      rw [fR_readSum_b7, f1.1, if_neg (show ¬ (14 : Int32) = 43 by decide), if_neg (show ¬ (14 : Int32) = 45 by decide), ite_self]
    · show fM_added_b5 (f_rM d) (999 + 1) v N1 = some (v, N1)
      rw [fM_added_b5, sign_NF f2]
      simp only [Option.bind_some, if_true]
      rw [sign_NF f2]
      simp only [Option.bind_some, if_true]
theorem rule_both {n t : Nat} {T : Stk} {d o : Nat} (hB : ∀ i, i < n → 0 ≤ (T i).toInt) (R : Rule n t T d 2 o) : Rule n t T (d + 1) 1 o := by
  intro M N a r c q hr
  have hn := c.1.2.1
  rw [rR1, rM1]
  unfold fR_readBoth fM_both
  obtain ⟨M1, N1, v, e1, e2, k1, r1, h1⟩ := R M N a r c q hr
  rw [e1, e2]
  simp only [Option.bind_some]
  rcases h1 with ⟨a1, w1, c1, q1, x1, x2, x3, ev1, p1⟩ | ⟨f, f1, f2, f3⟩
  · obtain ⟨M', N', v', y1, y2, y3⟩ := loop_both hB R n 0 1000 1000 M1 N1 a1 w1 v (by omega) (by omega) (by omega) (by omega) c1 q1 x1 x2 x3 (by omega) (ev1.nm (fun j hj => (nmN_keep r1 j hj).symm))
    exact ⟨M', N', v', y1, y2, y3.pre k1 r1 p1⟩
  · refine ⟨M1, N1, v, ?_, ?_, k1, r1, Or.inr ⟨f, f1, f2, f3⟩⟩
    · show fR_readBoth_b7 (f_rR d) (nI o) (999 + 1) 0 M1 = some M1
      rw [fR_readBoth_b7, f1.1, if_neg (show ¬ (14 : Int32) = 10 by decide), ite_self]
    · show fM_both_b5 (f_rM d) (999 + 1) v N1 = some (v, N1)
      rw [fM_both_b5, word_NF f2]
      simp only [Option.bind_some, if_true]
theorem rule_either {n t : Nat} {T : Stk} {d o : Nat} (hB : ∀ i, i < n → 0 ≤ (T i).toInt) (R : Rule n t T d 1 o) : Rule n t T (d + 1) 0 o := by
  intro M N a r c q hr
  have hn := c.1.2.1
  rw [rR0, rM0]
  unfold fR_readEither fM_either
  obtain ⟨M1, N1, v, e1, e2, k1, r1, h1⟩ := R M N a r c q hr
  rw [e1, e2]
  simp only [Option.bind_some]
  rcases h1 with ⟨a1, w1, c1, q1, x1, x2, x3, ev1, p1⟩ | ⟨f, f1, f2, f3⟩
  · obtain ⟨M', N', v', y1, y2, y3⟩ := loop_either hB R n 0 1000 1000 M1 N1 a1 w1 v (by omega) (by omega) (by omega) (by omega) c1 q1 x1 x2 x3 (by omega) (ev1.nm (fun j hj => (nmN_keep r1 j hj).symm))
    exact ⟨M', N', v', y1, y2, y3.pre k1 r1 p1⟩
  · refine ⟨M1, N1, v, ?_, ?_, k1, r1, Or.inr ⟨f, f1, f2, f3⟩⟩
    · show fR_readEither_b7 (f_rR d) (nI o) (999 + 1) 0 M1 = some M1
      rw [fR_readEither_b7, f1.1, if_neg (show ¬ (14 : Int32) = 9 by decide), ite_self]
    · show fM_either_b5 (f_rM d) (999 + 1) v N1 = some (v, N1)
      rw [fM_either_b5, word_NF f2]
      simp only [Option.bind_some, if_true]
/-- behind a fault the class reads nothing more -/
theorem bad_C {M : Mem} {f : Nat} (s : CB M f) (a : Int32) (d : Nat) : f_rR (d + 1) 5 a M = some M ∧ f_rR (d + 2) 4 a M = some M ∧ f_rR (d + 3) 3 a M = some M ∧ f_rR (d + 4) 2 a M = some M ∧ f_rR (d + 5) 1 a M = some M ∧ f_rR (d + 6) 0 a M = some M := by
  have h5 : f_rR (d + 1) 5 a M = some M := by
    rw [rR5]
    unfold fR_readOne fR_readOne_b87 fR_readOne_b121
    rw [s.1, if_neg (by decide), fN_within_eq]
    simp only [Option.bind_some, bz_0]
    rw [if_pos (by decide), s.1, if_neg (by decide), if_neg (by decide), refuse_CB s]
    rfl
  have h4 : f_rR (d + 2) 4 a M = some M := by
    rw [rR4]
    unfold fR_readTerm
    rw [h5]
    simp only [Option.bind_some]
    show fR_readTerm_b7 _ a (999 + 1) 0 M = some M
    rw [fR_readTerm_b7, s.1, if_neg (show ¬ (14 : Int32) = 42 by decide), ite_self]
  have h3 : f_rR (d + 3) 3 a M = some M := by
    rw [rR3]
    unfold fR_readSum
    rw [h4]
    simp only [Option.bind_some]
    show fR_readSum_b7 _ a (999 + 1) 0 M = some M
    rw [fR_readSum_b7, s.1, if_neg (show ¬ (14 : Int32) = 43 by decide), if_neg (show ¬ (14 : Int32) = 45 by decide), ite_self]
  have h2 : f_rR (d + 4) 2 a M = some M := by
    rw [rR2]
    unfold fR_readNot fR_readNot_b32
    rw [s.1, if_neg (by decide), h3]
    simp only [Option.bind_some]
    rw [s.1, if_neg (by decide), if_neg (by decide)]
  have h1 : f_rR (d + 5) 1 a M = some M := by
    rw [rR1]
    unfold fR_readBoth
    rw [h2]
    simp only [Option.bind_some]
    show fR_readBoth_b7 _ a (999 + 1) 0 M = some M
    rw [fR_readBoth_b7, s.1, if_neg (show ¬ (14 : Int32) = 10 by decide), ite_self]
  refine ⟨h5, h4, h3, h2, h1, ?_⟩
  rw [rR0]
  unfold fR_readEither
  rw [h1]
  simp only [Option.bind_some]
  show fR_readEither_b7 _ a (999 + 1) 0 M = some M
  rw [fR_readEither_b7, s.1, if_neg (show ¬ (14 : Int32) = 9 by decide), ite_self]
/-- a not that can't stand -/
theorem not_C {n : Nat} {T : Stk} {M Mr : Mem} {a r : Nat} (c : CS n T M a r) (h : tokC n T a = 11) (er : fR_refuse M = some Mr) (cr : CB Mr a) (x : Int32) (d : Nat) : f_rR (d + 3) 3 x M = some Mr := by
  rw [rR3]
  unfold fR_readSum
  have h5 : f_rR (d + 1) 5 x M = some Mr := by
    rw [rR5]
    unfold fR_readOne fR_readOne_b87 fR_readOne_b121
    rw [c.2.2.2.2.1, h, if_neg (by decide), fN_within_eq]
    simp only [Option.bind_some, bz_0]
    rw [if_pos (by decide), c.2.2.2.2.1, h, if_neg (by decide), if_neg (by decide), er]
    rfl
  have h4 : f_rR (d + 2) 4 x M = some Mr := by
    rw [rR4]
    unfold fR_readTerm
    rw [h5]
    simp only [Option.bind_some]
    show fR_readTerm_b7 _ x (999 + 1) 0 Mr = some Mr
    rw [fR_readTerm_b7, cr.1, if_neg (show ¬ (14 : Int32) = 42 by decide), ite_self]
  rw [h4]
  simp only [Option.bind_some]
  show fR_readSum_b7 _ x (999 + 1) 0 Mr = some Mr
  rw [fR_readSum_b7, cr.1, if_neg (show ¬ (14 : Int32) = 43 by decide), if_neg (show ¬ (14 : Int32) = 45 by decide), ite_self]
theorem rule_not {n t : Nat} {T : Stk} {d o : Nat} (hB : ∀ i, i < n → 0 ≤ (T i).toInt) (ho : o ≤ 5) (hd : 3 ≤ d) (R3 : Rule n t T d 3 o) (R2 : o < 5 → Rule n t T d 2 (o + 1)) : Rule n t T (d + 1) 2 o := by
  intro M N a r c q hr
  have hn := c.1.2.1
  have ha := c.2.1
  have h34 := q.2.2.2.2.2.2.1
  have h33 := q.2.2.2.2.2.2.2
  rw [rR2, rM2]
  unfold fR_readNot fM_not
  rw [c.2.2.2.2.1, NS_w11 hB q ha]
  simp only [Option.bind_some, bz_0]
  by_cases h11 : tokC n T a = 11
  · rw [if_pos h11, if_neg (show ¬ ¬ tokC n T a = 11 from fun z => z h11)]
    unfold fM_opens
    rw [h33]
    by_cases ho5 : o = 5
    · subst ho5
      obtain ⟨Mr, er, cr, kr⟩ := refuse_CS c (by omega)
      obtain ⟨Nf, ef, nf, rf⟩ := fail_NS q
      rw [if_pos (by decide), if_pos (by decide), ef]
      simp only [Option.bind_some, if_true]
      unfold fR_readNot_b32
      obtain ⟨d0, rfl⟩ := Nat.le.dest hd
      rw [Nat.add_comm 3 d0, not_C c h11 er cr]
      simp only [Option.bind_some]
      rw [cr.1, if_neg (by decide), if_neg (by decide)]
      exact ⟨Mr, Nf, 0, rfl, rfl, kr, rf, Or.inr ⟨a, cr, nf, ha⟩⟩
    · rw [if_neg (by rw [show (5 : Int32) = nI 5 from rfl, n_le (by omega) (by omega)]; omega), if_neg (by rw [show (5 : Int32) = nI 5 from rfl, n_eq (by omega) (by omega)]; omega), nI_1]
      obtain ⟨M2, N2, a2, e1, e2, c2, q2, h2, k2, r2, m2⟩ := adv_both hB c (q.o (nI (o + 1))) (by rw [h11]; decide) (by rw [h11]; decide)
      obtain ⟨M3, N3, v, e3, e4, k3, r3, h3⟩ := R2 (by omega) M2 N2 a2 r c2 q2 (by omega)
      rw [e1, e2]
      simp only [Option.bind_some]
      rw [if_neg (by decide), e3, e4]
      simp only [Option.bind_some]
      have kN : KeepR N (wr N3 85 33 (N3 85 33 - 1)) := ((KeepR.put (by omega)).trans (r2.trans r3)).trans (KeepR.put (by omega))
      have hv : (if v = 0 then some ((1 : Int32), wr N3 85 33 (N3 85 33 - 1)) else some (0, wr N3 85 33 (N3 85 33 - 1))) = some (if v = 0 then 1 else 0, wr N3 85 33 (N3 85 33 - 1)) := by split <;> rfl
      rw [hv]
      rcases h3 with ⟨a3, w3, c3, q3, x1, x2, x3, ev3, p3⟩ | ⟨f, f1, f2, f3⟩
      · have hn3 := c3.2.1
        obtain ⟨M4, e5, c4, m4, k4⟩ := write_CS (-11) c3 (by omega)
        rw [e5]
        simp only [Option.bind_some]
        refine ⟨M4, _, _, rfl, rfl, (k2.trans k3).trans k4, kN, Or.inl ⟨a3, w3 + 1, c4, ?_, by omega, by omega, by omega, ?_, fun i hi => ?_⟩⟩
        · rw [q3.2.2.2.2.2.2.2, nI_pd (by omega), Nat.add_sub_cancel]
          exact q3.o _
        · refine Ev.un (v := v) ((ev3.congr (by omega) (fun i h5 h6 => by rw [m4, stS, if_neg (by omega)])).nm (nmN_keep ((KeepR.put (by omega)).trans r2))) (by omega) (Or.inr ⟨by rw [m4, stS, if_pos rfl], rfl⟩)
        · rw [m4, stS, if_neg (by omega), p3 i hi, m2]
      · obtain ⟨M4, e5, c4, k4⟩ := write_CB (-11) f1
        rw [e5]
        simp only [Option.bind_some]
        exact ⟨M4, _, _, rfl, rfl, (k2.trans k3).trans k4, kN, Or.inr ⟨f, c4, f2.o _, f3⟩⟩
  · rw [if_neg h11, if_pos h11]
    unfold fR_readNot_b32
    obtain ⟨M1, N1, v, e1, e2, k1, r1, h1⟩ := R3 M N a r c q hr
    rw [e1, e2]
    simp only [Option.bind_some]
    rcases h1 with ⟨a1, w1, c1, q1, x1, x2, x3, ev1, p1⟩ | ⟨f, f1, f2, f3⟩
    · have go : ∀ s, (s = 60 ∨ s = 61) → tokC n T a1 = s → ∃ M' N' v', fR_readNot_b55 (f_rR d) (nI o) M1 = some M' ∧ fM_not_b77 (f_rM d) v N1 = some (v', N') ∧ Out n t T M N M' N' a r o v' := by
        intro s hs ht
        obtain ⟨M2, N2, M3, N3, u, M4, y1, y2, y3, y4, y5, k4, r3, res⟩ := stepL hB R3 (s := s) c1 q1 (by rcases hs with rfl | rfl <;> rw [ht] <;> decide) (by rcases hs with rfl | rfl <;> rw [ht] <;> decide) x1 x2 x3 (by omega) (ev1.nm (fun j hj => (nmN_keep r1 j hj).symm)) (by rcases hs with rfl | rfl <;> decide)
        have tk := (tok_sg (n := n) (T := T) (a := a1) (show cSg s = true by rcases hs with rfl | rfl <;> decide)).mp ht
        have hm : fM_not_b77 (f_rM d) v N1 = some (jn s v u, N3) := by
          unfold fM_not_b77 fM_not_b93 fM_not_b120
          rw [q1.2.2.2.2.2.1 tk.1, tk.2, y2]
          simp only [Option.bind_some]
          rw [y4]
          simp only [Option.bind_some]
          rcases hs with rfl | rfl
          · rw [if_pos (by decide), if_neg (by decide), show jn 60 v u = (if v < u then 1 else 0) from rfl]
            by_cases g : u ≤ v
            · rw [if_pos g, if_neg (by rw [i_lt]; rw [i_le] at g; omega)]
            · rw [if_neg g, if_pos (by rw [i_lt]; rw [i_le] at g; omega)]
          · rw [if_neg (by decide), if_pos trivial, show jn 61 v u = (if v = u then 1 else 0) from rfl]
            by_cases g : v = u
            · rw [if_pos g, if_pos g]
            · rw [if_neg g, if_neg g]
        have hc : fR_readNot_b55 (f_rR d) (nI o) M1 = some M4 := by
          unfold fR_readNot_b55
          rw [y1]
          simp only [Option.bind_some]
          rw [y3]
          simp only [Option.bind_some]
          rw [c1.2.2.2.2.1, ht, y5]
          rfl
        rw [hm, hc]
        rcases res with ⟨a4, w4, c4, q4, z1, z2, z3, z4, ev4, p4⟩ | ⟨f, f1, f2, f3⟩
        · exact ⟨M4, N3, _, rfl, rfl, k1.trans k4, r1.trans r3, Or.inl ⟨a4, w4, c4, q4, by omega, z2, z3, ev4.nm (nmN_keep r1), fun i hi => (p4 i hi).trans (p1 i hi)⟩⟩
        · exact ⟨M4, N3, _, rfl, rfl, k1.trans k4, r1.trans r3, Or.inr ⟨f, f1, f2, f3⟩⟩
      rw [c1.2.2.2.2.1, NS_sign q1 (by decide)]
      simp only [Option.bind_some, bz_0]
      by_cases g1 : tokC n T a1 = 60
      · rw [if_pos g1, if_neg (show ¬ ¬ tokC n T a1 = 60 from fun z => z g1)]
        exact go 60 (Or.inl rfl) g1
      · rw [if_neg g1, if_pos g1, NS_sign q1 (by decide)]
        simp only [Option.bind_some, bz_0]
        by_cases g2 : tokC n T a1 = 61
        · rw [if_pos g2, if_neg (show ¬ ¬ tokC n T a1 = 61 from fun z => z g2)]
          exact go 61 (Or.inr rfl) g2
        · rw [if_neg g2, if_pos g2]
          exact ⟨M1, N1, v, rfl, rfl, k1, r1, Or.inl ⟨a1, w1, c1, q1, x1, x2, x3, ev1, p1⟩⟩
    · rw [f1.1, if_neg (by decide), if_neg (by decide), sign_NF f2]
      simp only [Option.bind_some, if_true]
      rw [sign_NF f2]
      simp only [Option.bind_some, if_true]
      exact ⟨M1, N1, v, rfl, rfl, k1, r1, Or.inr ⟨f, f1, f2, f3⟩⟩
theorem rules {n t : Nat} {T : Stk} (hB : ∀ i, i < n → 0 ≤ (T i).toInt) : ∀ (d w o : Nat), w ≤ 5 → o ≤ 5 → 6 * (5 - o) + (6 - w) ≤ d → Rule n t T d w o := by
  intro d
  induction d with
  | zero => intro w o h1 h2 h3; omega
  | succ d ih =>
    intro w o h1 h2 h3
    rcases (by omega : w = 0 ∨ w = 1 ∨ w = 2 ∨ w = 3 ∨ w = 4 ∨ w = 5) with rfl | rfl | rfl | rfl | rfl | rfl
    · exact rule_either hB (ih 1 o (by omega) h2 (by omega))
    · exact rule_both hB (ih 2 o (by omega) h2 (by omega))
    · exact rule_not hB h2 (by omega) (ih 3 o (by omega) h2 (by omega)) (fun h => ih 2 (o + 1) (by omega) (by omega) (by omega))
    · exact rule_sum hB (ih 4 o (by omega) h2 (by omega))
    · exact rule_term hB (ih 5 o (by omega) h2 (by omega))
    · exact rule_one hB h2 (fun h => ih 5 (o + 1) (by omega) (by omega) (by omega)) (fun h => ih 0 (o + 1) (by omega) (by omega) (by omega))
end
section
/-! 38: a text is read -/
theorem part_bad {M : Mem} {f p : Nat} (s : CB M f) (hp : p < 3) : fR_expect (nI (6 + p)) M = some M ∧ f_rR 60 0 0 M = some M ∧ fR_expect 59 M = some M := by
  have e : ∀ x : Int32, x ≠ 14 → fR_expect x M = some M := by
    intro x hx
    unfold fR_expect
    rw [s.1, if_neg (fun z => hx z.symm), refuse_CB s]
    rfl
  exact ⟨e _ (by rw [show (14 : Int32) = nI 14 from rfl, Ne, n_eq (by omega) (by omega)]; omega), (bad_C s 0 54).2.2.2.2.2, e _ (by decide)⟩
theorem part_both {n t p : Nat} {T : Stk} (hB : ∀ i, i < n → 0 ≤ (T i).toInt) (hp : p < 3) {M N : Mem} {a r : Nat} (c : CS n T M a r) (q : NS n t T N a (nI 0)) (hr : r ≤ a) : ∃ M4 M5 M6 N' v, fR_expect (nI (6 + p)) M = some M4 ∧ f_rR 60 0 0 M4 = some M5 ∧ fR_expect 59 M5 = some M6 ∧ fM_part (bz (tokC n T a = nI (6 + p))) N = some (v, N') ∧ KC M M6 ∧ KeepR N N' ∧ ((∃ a' w', CS n T M6 a' w' ∧ NS n t T N' a' (nI 0) ∧ w' ≤ a' ∧ r ≤ w' ∧ Ev (nmN N) (M6 42) r w' v ∧ ∀ i, i < r → M6 42 i = M 42 i) ∨ ∃ f, CB M6 f ∧ NF N' f ∧ f ≤ n) := by
  have hn := c.1.2.1
  have ha := c.2.1
  by_cases hk : tokC n T a = nI (6 + p)
  · have n13 : tokC n T a ≠ 13 := by rw [hk, show (13 : Int32) = nI 13 from rfl, Ne, n_eq (by omega) (by omega)]; omega
    have n14 : tokC n T a ≠ 14 := by rw [hk, show (14 : Int32) = nI 14 from rfl, Ne, n_eq (by omega) (by omega)]; omega
    obtain ⟨M2, N2, a2, e1, e2, c2, q2, h2, k2, r2, m2⟩ := adv_both hB c q n13 n14
    obtain ⟨M3, N3, v, e3, e4, k3, r3, h3⟩ := rules hB 60 0 0 (by omega) (by omega) (by omega) M2 N2 a2 r c2 q2 (by omega)
    have ex1 : fR_expect (nI (6 + p)) M = some M2 := by
      unfold fR_expect
      rw [c.2.2.2.2.1, hk, if_pos rfl, if_neg (by rw [hk] at n13; exact n13), e1]
      rfl
    have pm : fM_part (bz (tokC n T a = nI (6 + p))) N = fM_part_b34 v N3 := by
      unfold fM_part fM_part_b8 fM_part_b19
      rw [bz, if_pos hk, if_neg (by decide), if_pos q.2.2.2.2.2.2.1, e2]
      simp only [Option.bind_some]
      rw [if_pos q2.2.2.2.2.2.2.1, e4]
      rfl
    rcases h3 with ⟨a3, w3, c3, q3, x1, x2, x3, ev3, p3⟩ | ⟨f, f1, f2, f3⟩
    · have hn3 := c3.2.1
      by_cases h59 : tokC n T a3 = 59
      · obtain ⟨M5, N5, a5, e6, e7, c5, q5, h5, k5, r5, m5⟩ := adv_both hB c3 q3 (by rw [h59]; decide) (by rw [h59]; decide)
        refine ⟨M2, M3, M5, N5, v, ex1, e3, ?_, ?_, (k2.trans k3).trans k5, (r2.trans r3).trans r5, Or.inl ⟨a5, w3, c5, q5, by omega, by omega, ?_, fun i hi => ?_⟩⟩
        · unfold fR_expect
          rw [c3.2.2.2.2.1, if_pos h59, if_neg (by decide), e6]
          rfl
        · rw [pm]
          unfold fM_part_b34 fM_part_b48 fM_part_b59
          rw [NS_sign q3 (by decide)]
          simp only [Option.bind_some, bz_0]
          rw [if_neg (show ¬ ¬ tokC n T a3 = 59 from fun z => z h59), if_pos q3.2.2.2.2.2.2.1, e7]
          rfl
        · rw [m5]; exact ev3.nm (nmN_keep r2)
        · rw [m5, p3 i hi, m2]
      · obtain ⟨M4, e5, c4, k4⟩ := refuse_CS c3 (by omega)
        obtain ⟨N4, e6, n4, r4⟩ := fail_NS q3
        refine ⟨M2, M3, M4, N4, v, ex1, e3, ?_, ?_, (k2.trans k3).trans k4, (r2.trans r3).trans r4, Or.inr ⟨a3, c4, n4, hn3⟩⟩
        · unfold fR_expect
          rw [c3.2.2.2.2.1, if_neg h59, e5]
          rfl
        · rw [pm]
          unfold fM_part_b34 fM_part_b48 fM_part_b59
          rw [NS_sign q3 (by decide)]
          simp only [Option.bind_some, bz_0]
          rw [if_pos h59, e6]
          simp only [Option.bind_some]
          rw [n4.1, if_neg (by decide)]
    · refine ⟨M2, M3, M3, N3, v, ex1, e3, (part_bad f1 hp).2.2, ?_, k2.trans k3, r2.trans r3, Or.inr ⟨f, f1, f2, f3⟩⟩
      rw [pm]
      unfold fM_part_b34 fM_part_b48 fM_part_b59
      rw [sign_NF f2]
      simp only [Option.bind_some, if_true]
      rw [fail_NF f2]
      simp only [Option.bind_some]
      rw [f2.1, if_neg (by decide)]
  · obtain ⟨M4, e5, c4, k4⟩ := refuse_CS c (by omega)
    obtain ⟨N4, e6, n4, r4⟩ := fail_NS q
    have pb := part_bad c4 hp
    refine ⟨M4, M4, M4, N4, 0, ?_, pb.2.1, pb.2.2, ?_, k4, r4, Or.inr ⟨a, c4, n4, ha⟩⟩
    · unfold fR_expect
      rw [c.2.2.2.2.1, if_neg hk, e5]
      rfl
    · unfold fM_part fM_part_b8 fM_part_b19 fM_part_b34 fM_part_b48 fM_part_b59
      rw [bz, if_neg hk, if_pos rfl, e6]
      simp only [Option.bind_some]
      rw [n4.1, if_neg (by decide), if_neg (by decide), sign_NF n4]
      simp only [Option.bind_some, if_true]
      rw [fail_NF n4]
      simp only [Option.bind_some]
      rw [n4.1, if_neg (by decide)]
def K4 (M N : Mem) : Prop := ∀ a, a ≠ 40 → a ≠ 42 → a ≠ 43 → N a = M a
theorem K4.trans {M N O : Mem} (a : K4 M N) (b : K4 N O) : K4 M O := fun x h1 h2 h3 => (b x h1 h2 h3).trans (a x h1 h2 h3)
theorem KC.k4 {M N : Mem} (a : KC M N) : K4 M N := fun x h1 h2 _ => a.1 x h1 h2
theorem K4.put {M : Mem} {k j : Nat} {v : Int32} (h : k = 40 ∨ k = 43) : K4 M (wr M k j v) := fun a h1 _ h3 => wr_ne (by omega)
theorem CS.w43 {n a w : Nat} {T : Stk} {M : Mem} (c : CS n T M a w) (j : Nat) (x : Int32) : CS n T (wr M 43 j x) a w := by
  unfold CS TC
  rw [wr_ne (show 40 ≠ 43 by decide), wr_ne (show 41 ≠ 43 by decide)]
  exact c
theorem CB.w43 {f : Nat} {M : Mem} (c : CB M f) (j : Nat) (x : Int32) : CB (wr M 43 j x) f := by
  unfold CB
  rw [wr_ne (show 40 ≠ 43 by decide)]
  exact c
/-- behind a fault the class ends so -/
theorem read_bad {g f : Nat} (hf : f ≤ 160) : ∀ (c p z : Nat) (M : Mem), p + c = 3 → c < z → CB M f → ∃ M', fR_read_b21 g z (nI p) M = some (nI f, M') ∧ K4 M M' ∧ M' 40 1 = 0 := by
  intro c
  induction c with
  | zero =>
    intro p z M hp hz s
    obtain ⟨z, rfl⟩ := Nat.exists_eq_succ_of_ne_zero (show z ≠ 0 by omega)
    have : p = 3 := by omega
    subst this
    rw [fR_read_b21, if_pos (by decide)]
    unfold fR_expect fR_read_b87
    rw [s.1, if_neg (by decide), refuse_CB s]
    simp only [Option.bind_some]
    rw [s.2.1, if_neg (nI_m1 (by omega)), wr_at (show 6 ≠ 1 by decide), s.2.1]
    exact ⟨_, rfl, K4.put (by omega), wr_same⟩
  | succ c ih =>
    intro p z M hp hz s
    obtain ⟨z, rfl⟩ := Nat.exists_eq_succ_of_ne_zero (show z ≠ 0 by omega)
    have pb := part_bad s (show p < 3 by omega)
    rw [fR_read_b21, if_neg (by rw [show (3 : Int32) = nI 3 from rfl, n_le (by omega) (by omega)]; omega), show (6 : Int32) + nI p = nI (6 + p) from nI_add 6 p, pb.1]
    simp only [Option.bind_some]
    rw [pb.2.1]
    simp only [Option.bind_some]
    rw [pb.2.2]
    simp only [Option.bind_some]
    rw [if_pos (ib_nI (by omega) (by omega)), ix_nI (by omega), nI_1]
    obtain ⟨M', e1, e2, e3⟩ := ih (p + 1) z _ (by omega) (by omega) (s.w43 p (M 40 9))
    exact ⟨M', e1, (K4.put (by omega)).trans e2, e3⟩
theorem read_step {g p z : Nat} {M M4 M5 M6 : Mem} (hp : p < 3) (h1 : fR_expect (nI (6 + p)) M = some M4) (h2 : f_rR 60 0 0 M4 = some M5) (h3 : fR_expect 59 M5 = some M6) : fR_read_b21 g (z + 1) (nI p) M = fR_read_b21 g z (nI (p + 1)) (wr M6 43 p (M6 40 9)) := by
  rw [fR_read_b21, if_neg (by rw [show (3 : Int32) = nI 3 from rfl, n_le (by omega) (by omega)]; omega), show (6 : Int32) + nI p = nI (6 + p) from nI_add 6 p, h1]
  simp only [Option.bind_some]
  rw [h2]
  simp only [Option.bind_some]
  rw [h3]
  simp only [Option.bind_some]
  rw [if_pos (ib_nI (by omega) (by omega)), ix_nI (by omega), nI_1]
theorem wrR_ne {M : Mem} {k a : Nat} {f : Nat → Int32} (h : a ≠ k) : wrR M k f a = M a := if_neg h
theorem wrR_same {M : Mem} {k : Nat} {f : Nat → Int32} : wrR M k f k = f := if_pos rfl
theorem fG_become_eq {g : Nat} (hg : 59 ≤ g) (M : Mem) : ∃ M', fG_become g M = some M' ∧ (∀ x, x ≠ g + 1 → x ≠ g + 2 → M' x = M x) ∧ (∀ i, i < 160 → M' (g + 1) i = M 42 i) ∧ ∀ i, i < 3 → M' (g + 2) i = M 43 i := by
  unfold fG_become
  rw [if_pos (by decide), if_pos (by decide)]
  refine ⟨_, rfl, fun x h1 h2 => ?_, fun i hi => ?_, fun i hi => ?_⟩
  · rw [wrR_ne h2, wrR_ne h1]
  · rw [wrR_ne (show g + 1 ≠ g + 2 by omega), wrR_same]
    unfold va_cpy
    rw [if_pos (by rw [show ix 0 = 0 from rfl, show ix 160 = 160 from rfl]; omega), show ix 0 = 0 from rfl, Nat.zero_add, Nat.sub_zero]
  · rw [wrR_same]
    unfold va_cpy
    rw [if_pos (by rw [show ix 0 = 0 from rfl, show ix 3 = 3 from rfl]; omega), show ix 0 = 0 from rfl, Nat.sub_zero, wrR_ne (by omega), Nat.zero_add]
theorem read_end {n a w g z : Nat} {T : Stk} {M : Mem} (hg : 59 ≤ g) (c : CS n T M a w) (hw : w ≤ 160) : (tokC n T a = 13 ∧ ∃ M', fR_read_b21 g (z + 1) (nI 3) M = some (-1, M') ∧ M' 40 1 = 0 ∧ (∀ x, x ≠ 40 → x ≠ g + 1 → x ≠ g + 2 → M' x = M x) ∧ (∀ i, i < 160 → M' (g + 1) i = M 42 i) ∧ ∀ i, i < 3 → M' (g + 2) i = M 43 i) ∨ (tokC n T a ≠ 13 ∧ ∃ M', fR_read_b21 g (z + 1) (nI 3) M = some (nI a, M') ∧ K4 M M' ∧ M' 40 1 = 0) := by
  have hn := c.1.2.1
  have ha := c.2.1
  by_cases h13 : tokC n T a = 13
  · refine Or.inl ⟨h13, ?_⟩
    have c6 := c.2.2.2.2.2.2.1
    rw [h13, if_neg (by decide)] at c6
    obtain ⟨R, e1, e2, e3, e4⟩ := fG_become_eq hg M
    rw [fR_read_b21, if_pos (by decide)]
    unfold fR_expect fR_read_b87
    rw [c.2.2.2.2.1, if_pos h13, if_pos rfl]
    simp only [Option.bind_some]
    rw [if_pos c6, e1]
    simp only [Option.bind_some]
    have c6' : wr R 40 1 0 40 6 = -1 := by rw [wr_at (by decide), e2 40 (by omega) (by omega), c6]
    rw [c6']
    refine ⟨_, rfl, wr_same, fun x h1 h2 h3 => ?_, fun i hi => ?_, fun i hi => ?_⟩
    · rw [wr_ne h1, e2 x h2 h3]
    · rw [wr_ne (show g + 1 ≠ 40 by omega), e3 i hi]
    · rw [wr_ne (show g + 2 ≠ 40 by omega), e4 i hi]
  · refine Or.inr ⟨h13, ?_⟩
    obtain ⟨M4, e5, c4, k4⟩ := refuse_CS c hw
    rw [fR_read_b21, if_pos (by decide)]
    unfold fR_expect fR_read_b87
    rw [c.2.2.2.2.1, if_neg h13, e5]
    simp only [Option.bind_some]
    rw [c4.2.1, if_neg (nI_m1 (by omega)), wr_at (show 6 ≠ 1 by decide), c4.2.1]
    exact ⟨_, rfl, k4.k4.trans (K4.put (by omega)), wr_same⟩
theorem b145_eq {p : Nat} (hp : p < 3) (v0 v1 v2 : Int32) (N : Mem) : fM_read_b145 (nI p) v0 v1 v2 N = some (if p = 0 then v0 else if p = 1 then v1 else v2, N) := by
  unfold fM_read_b145
  rw [show (0 : Int32) = nI 0 from rfl, show (1 : Int32) = nI 1 from rfl]
  simp only [n_eq (show p < 2147483648 by omega) (show 0 < 2147483648 by omega), n_eq (show p < 2147483648 by omega) (show 1 < 2147483648 by omega)]
  split
  · rfl
  · split <;> rfl
/-- both read a text -/
theorem read_lock {n t g p : Nat} {T : Stk} {M N : Mem} (hB : ∀ i, i < n → 0 ≤ (T i).toInt) (hg : 59 ≤ g) (ht : t < 6) (hp : p < 3) (hM : TC n T M) (hN : N 87 t = nI n) (hT : ∀ i, i < n → N 86 (160 * t + i) = T i) : ∃ x M' v N', fR_read g M = some (x, M') ∧ fM_read (nI t) (nI p) N = some (v, N') ∧ KeepR N N' ∧ M' 40 1 = 0 ∧ (∀ a, a ≠ 40 → a ≠ 42 → a ≠ 43 → a ≠ g + 1 → a ≠ g + 2 → M' a = M a) ∧ ((x = -1 ∧ N' 85 34 = 0 ∧ ∃ v0 v1 v2 w1 w2 w3, (M' (g + 2) 0 = nI w1 ∧ M' (g + 2) 1 = nI w2 ∧ M' (g + 2) 2 = nI w3) ∧ (w1 ≤ w2 ∧ w2 ≤ w3 ∧ w3 ≤ 160) ∧ (Ev (nmN N) (M' (g + 1)) 0 w1 v0 ∧ Ev (nmN N) (M' (g + 1)) w1 w2 v1 ∧ Ev (nmN N) (M' (g + 1)) w2 w3 v2) ∧ v = (if p = 0 then v0 else if p = 1 then v1 else v2)) ∨ ∃ f, f ≤ n ∧ x = nI f ∧ N' 85 34 = 1 ∧ N' 85 35 = nI f ∧ M' (g + 1) = M (g + 1) ∧ M' (g + 2) = M (g + 2)) := by
  have hn := hM.2.1
  unfold fR_read fM_read
  rw [if_pos (ib_nI ht (by omega)), show (160 : Int32) * nI t = nI (160 * t) from pk_mul 160 t, ix_nI (by omega), wr_ne (show 87 ≠ 85 by decide), hN]
  -- the class begins
  have hM0 : TC n T (wr (wr (wr M 40 9 0) 40 3 0) 40 6 (-1)) := by
    refine ⟨?_, hn, fun i hi => ?_⟩
    · rw [wr_at (by decide), wr_at (by decide), wr_at (by decide)]; exact hM.1
    · rw [wr_ne (by decide), wr_ne (by decide), wr_ne (by decide)]; exact hM.2.2 i hi
  obtain ⟨M1, e1, c1, k1⟩ := fR_advance_eq (b := 0) (w := 0) hB hM0 (by simp [wr]; rfl) (Nat.zero_le _) (by simp [wr]) (by simp [wr]; rfl)
  rw [e1]
  simp only [Option.bind_some]
  have K1 : K4 M M1 := (((K4.put (by omega)).trans (K4.put (by omega))).trans (K4.put (by omega))).trans k1.c.k4
  -- the model begins
  generalize hN0 : wr (wr (wr (wr (wr N 85 27 (nI (160 * t))) 85 28 (nI n)) 85 29 0) 85 33 0) 85 34 0 = N0
  have kN0 : KeepR N N0 := by
    rw [← hN0]
    exact ((((KeepR.put (by omega)).trans (KeepR.put (by omega))).trans (KeepR.put (by omega))).trans (KeepR.put (by omega))).trans (KeepR.put (by omega))
  have nb0 : NB n t T N0 := by
    refine ⟨⟨ht, hn⟩, ?_, ?_, fun i hi => ?_⟩
    · rw [← hN0]; simp [wr]
    · rw [← hN0]; simp [wr]
    · rw [kN0.1 86 (by decide)]; exact hT i hi
  obtain ⟨N1, e2, q1, r1⟩ := fM_next_eq (b := 0) (o := nI 0) hB nb0 (by rw [← hN0]; simp [wr]; rfl) (Nat.zero_le _) (by rw [← hN0]; simp [wr]) (by rw [← hN0]; simp [wr]; rfl)
  rw [e2]
  simp only [Option.bind_some]
  have R1 : KeepR N N1 := kN0.trans r1.r
  have hb := rn_bd (P := cBl) (n := n) (i := 0) (T := T) (Nat.zero_le _)
  generalize rn cBl n T 0 = a0 at *
  -- a fault somewhere
  have bad : ∀ (k : Nat) (M3 N3 : Mem) (f : Nat) (y0 y1 : Int32), k ≤ 2 → K4 M M3 → KeepR N N3 → CB M3 f → NF N3 f → f ≤ n → fR_read_b21 g 1000 0 M1 = fR_read_b21 g (999 - k) (nI (k + 1)) (wr M3 43 k (M3 40 9)) → ∃ x M', fR_read_b21 g 1000 0 M1 = some (x, M') ∧ M' 40 1 = 0 ∧ (∀ a, a ≠ 40 → a ≠ 42 → a ≠ 43 → a ≠ g + 1 → a ≠ g + 2 → M' a = M a) ∧ x = nI f ∧ M' (g + 1) = M (g + 1) ∧ M' (g + 2) = M (g + 2) := by
    intro k M3 N3 f y0 y1 hk hK hR cb nf hf he
    obtain ⟨M', z1, z2, z3⟩ := read_bad (g := g) (f := f) (by omega) (2 - k) (k + 1) (999 - k) _ (by omega) (by omega) (cb.w43 k (M3 40 9))
    have hK' : K4 M M' := (hK.trans (K4.put (by omega))).trans z2
    exact ⟨nI f, M', he.trans z1, z3, fun a h1 h2 h3 _ _ => hK' a h1 h2 h3, rfl, hK' _ (by omega) (by omega) (by omega), hK' _ (by omega) (by omega) (by omega)⟩
  have w6 := NS_w6 hB q1 c1.2.1
  rw [w6]
  simp only [Option.bind_some]
  obtain ⟨A4, A5, A6, N2, v0, x1, x2, x3, x4, x5, x6, x7⟩ := part_both (p := 0) hB (by omega) c1 q1 (Nat.zero_le _)
  rw [show (6 : Int32) = nI (6 + 0) from rfl, x4]
  simp only [Option.bind_some]
  have sA : fR_read_b21 g 1000 0 M1 = fR_read_b21 g 999 (nI 1) (wr A6 43 0 (A6 40 9)) := read_step (z := 999) (p := 0) (by omega) x1 x2 x3
  rcases x7 with ⟨a1, w1, c2, q2, g1, g2, ev0, p0⟩ | ⟨f, f1, f2, f3⟩
  · rw [if_pos q2.2.2.2.2.2.2.1, NS_w7 hB q2 c2.2.1]
    simp only [Option.bind_some]
    obtain ⟨B4, B5, B6, N3, v1, y1, y2, y3, y4, y5, y6, y7⟩ := part_both (p := 1) hB (by omega) (c2.w43 0 (A6 40 9)) q2 g1
    rw [show (7 : Int32) = nI (6 + 1) from rfl, y4]
    simp only [Option.bind_some]
    have sB : fR_read_b21 g 999 (nI 1) (wr A6 43 0 (A6 40 9)) = fR_read_b21 g 998 (nI 2) (wr B6 43 1 (B6 40 9)) := read_step (z := 998) (p := 1) (by omega) y1 y2 y3
    unfold fM_read_b91
    rcases y7 with ⟨a2, w2, c3, q3, g3, g4, ev1, p1⟩ | ⟨f, f1, f2, f3⟩
    · rw [if_pos q3.2.2.2.2.2.2.1, NS_w8 hB q3 c3.2.1]
      simp only [Option.bind_some]
      obtain ⟨C4, C5, C6, N4, v2, z1, z2, z3, z4, z5, z6, z7⟩ := part_both (p := 2) hB (by omega) (c3.w43 1 (B6 40 9)) q3 g3
      rw [show (8 : Int32) = nI (6 + 2) from rfl, z4]
      simp only [Option.bind_some]
      have sC : fR_read_b21 g 998 (nI 2) (wr B6 43 1 (B6 40 9)) = fR_read_b21 g 997 (nI 3) (wr C6 43 2 (C6 40 9)) := read_step (z := 997) (p := 2) (by omega) z1 z2 z3
      unfold fM_read_b125
      have RN : KeepR N N4 := ((R1.trans x6).trans y6).trans z6
      have KM : K4 M C6 := ((((K1.trans x5.k4).trans (K4.put (by omega))).trans y5.k4).trans (K4.put (by omega))).trans z5.k4
      rcases z7 with ⟨a3, w3, c4, q4, g5, g6, ev2, p2⟩ | ⟨f, f1, f2, f3⟩
      · have hn3 := c4.2.1
        rw [if_pos q4.2.2.2.2.2.2.1, q4.2.2.2.1]
        have cE := c4.w43 2 (C6 40 9)
        rcases read_end (z := 996) hg cE (by omega) with ⟨h13, M', u1, u2, u3, u4, u5⟩ | ⟨h13, M', u1, u2, u3⟩
        · have hk0 := (tok_end hB).mp h13
          rw [if_pos hk0, b145_eq hp, sA, sB, sC, u1]
          refine ⟨-1, M', _, N4, rfl, rfl, RN, u2, fun a h1 h2 h3 h4 h5 => ?_, Or.inl ⟨rfl, q4.2.2.2.2.2.2.1, v0, v1, v2, w1, w2, w3, ⟨?_, ?_, ?_⟩, ⟨g4, g6, by omega⟩, ⟨?_, ?_, ?_⟩, rfl⟩⟩
          · rw [u3 a h1 h4 h5, wr_ne h3, KM a h1 h2 h3]
          · rw [u5 0 (by omega), wr_at (show 0 ≠ 2 by decide), z5.1 43 (by decide) (by decide), wr_at (show 0 ≠ 1 by decide), y5.1 43 (by decide) (by decide), wr_same, c2.2.2.2.2.2.2.2]
          · rw [u5 1 (by omega), wr_at (show 1 ≠ 2 by decide), z5.1 43 (by decide) (by decide), wr_same, c3.2.2.2.2.2.2.2]
          · rw [u5 2 (by omega), wr_same, c4.2.2.2.2.2.2.2]
          · refine (ev0.congr (by omega) (fun i h1 h2 => ?_)).nm (nmN_keep R1)
            rw [u4 i (by omega), wr_ne (by decide), p2 i (by omega), wr_ne (by decide), p1 i h2, wr_ne (by decide)]
          · refine (ev1.congr (by omega) (fun i h1 h2 => ?_)).nm (nmN_keep (R1.trans x6))
            rw [u4 i (by omega), wr_ne (by decide), p2 i h2, wr_ne (by decide)]
          · refine (ev2.congr (by omega) (fun i h1 h2 => ?_)).nm (nmN_keep ((R1.trans x6).trans y6))
            rw [u4 i (by omega), wr_ne (by decide)]
        · have hk0 : ¬ kndT n T a3 = 0 := fun z => h13 ((tok_end hB).mpr z)
          obtain ⟨N5, e6, n4, r4⟩ := fail_NS q4
          rw [if_neg hk0, e6]
          simp only [Option.bind_some]
          rw [b145_eq hp, sA, sB, sC, u1]
          have KE : K4 M M' := (KM.trans (K4.put (by omega))).trans u2
          exact ⟨nI a3, M', _, N5, rfl, rfl, RN.trans r4, u3, fun a h1 h2 h3 _ _ => KE a h1 h2 h3, Or.inr ⟨a3, hn3, rfl, n4.1, n4.2, KE _ (by omega) (by omega) (by omega), KE _ (by omega) (by omega) (by omega)⟩⟩
      · rw [if_neg (by rw [f2.1]; decide), b145_eq hp]
        obtain ⟨x, M', u1, u2, u3, u4, u5, u6⟩ := bad 2 C6 N4 f 0 0 (by omega) KM RN f1 f2 f3 ((sA.trans sB).trans sC)
        exact ⟨x, M', _, N4, u1, rfl, RN, u2, u3, Or.inr ⟨f, f3, u4, f2.1, f2.2, u5, u6⟩⟩
    · have RN : KeepR N N3 := (R1.trans x6).trans y6
      have KM : K4 M B6 := ((K1.trans x5.k4).trans (K4.put (by omega))).trans y5.k4
      rw [if_neg (by rw [f2.1]; decide)]
      unfold fM_read_b125
      rw [if_neg (by rw [f2.1]; decide), b145_eq hp]
      obtain ⟨x, M', u1, u2, u3, u4, u5, u6⟩ := bad 1 B6 N3 f 0 0 (by omega) KM RN f1 f2 f3 (sA.trans sB)
      exact ⟨x, M', _, N3, u1, rfl, RN, u2, u3, Or.inr ⟨f, f3, u4, f2.1, f2.2, u5, u6⟩⟩
  · have RN : KeepR N N2 := R1.trans x6
    have KM : K4 M A6 := K1.trans x5.k4
    rw [if_neg (by rw [f2.1]; decide)]
    unfold fM_read_b91
    rw [if_neg (by rw [f2.1]; decide)]
    unfold fM_read_b125
    rw [if_neg (by rw [f2.1]; decide), b145_eq hp]
    obtain ⟨x, M', u1, u2, u3, u4, u5, u6⟩ := bad 0 A6 N2 f 0 0 (by omega) KM RN f1 f2 f3 sA
    exact ⟨x, M', _, N2, u1, rfl, RN, u2, u3, Or.inr ⟨f, f3, u4, f2.1, f2.2, u5, u6⟩⟩
end
section
/-! 39: a text of the class and a text of the model say the same -/
/-- what the model reads at t, on whatever state -/
def TXm (t : Nat) (C E : Stk) (U W : Nat → Int32) : Prop := ∃ (n : Nat) (T : Stk), n ≤ 160 ∧ W t = nI n ∧ (∀ i, i < n → U (160 * t + i) = T i) ∧ ∀ (N : Mem) (p : Nat), N 87 t = nI n → (∀ i, i < n → N 86 (160 * t + i) = T i) → p < 3 → ∃ N', fM_read (nI t) (nI p) N = some (tlC C E p (N 85 21) (N 85 22) (N 85 23) (N 85 24) (N 85 25) (N 85 26), N') ∧ KeepR N N' ∧ N' 85 34 = 0
def TX (t : Nat) (M : Mem) : Prop := WFc (M (60 + 3 * t)) (M (61 + 3 * t)) ∧ TXm t (M (60 + 3 * t)) (M (61 + 3 * t)) (M 86) (M 87)
theorem TX.vmo {t : Nat} {M : Mem} (h : TX t M) : VMo (nI t) (tlC (M (60 + 3 * t)) (M (61 + 3 * t))) (M 86) (M 87) := by
  obtain ⟨-, n, T, h1, h2, h3, h4⟩ := h
  intro N p e1 e2 hp
  obtain ⟨N', q1, q2, -⟩ := h4 N p (by rw [e2]; exact h2) (fun i hi => by rw [e1]; exact h3 i hi) hp
  exact ⟨N', q1, q2⟩
/-- a state of the model with given names -/
def Zt (n t : Nat) (T nm : Stk) : Mem := fun a b => if a = 87 then nI n else if a = 86 then T (b - 160 * t) else nm (b - 21)
/-- how texts are read, told without the model's state -/
theorem read_text {n t g : Nat} {T : Stk} {M : Mem} (hB : ∀ i, i < n → 0 ≤ (T i).toInt) (hg : 59 ≤ g) (ht : t < 6) (hM : TC n T M) : ∃ x M', fR_read g M = some (x, M') ∧ M' 40 1 = 0 ∧ (∀ a, a ≠ 40 → a ≠ 42 → a ≠ 43 → a ≠ g + 1 → a ≠ g + 2 → M' a = M a) ∧ ((x = -1 ∧ WFc (M' (g + 1)) (M' (g + 2)) ∧ ∀ (N : Mem) (p : Nat), N 87 t = nI n → (∀ i, i < n → N 86 (160 * t + i) = T i) → p < 3 → ∃ N', fM_read (nI t) (nI p) N = some (tlC (M' (g + 1)) (M' (g + 2)) p (N 85 21) (N 85 22) (N 85 23) (N 85 24) (N 85 25) (N 85 26), N') ∧ KeepR N N' ∧ N' 85 34 = 0) ∨ (∃ f, f ≤ n ∧ x = nI f ∧ M' (g + 1) = M (g + 1) ∧ M' (g + 2) = M (g + 2) ∧ ∀ (N : Mem) (p : Nat), N 87 t = nI n → (∀ i, i < n → N 86 (160 * t + i) = T i) → p < 3 → ∃ v N', fM_read (nI t) (nI p) N = some (v, N') ∧ KeepR N N' ∧ N' 85 34 = 1 ∧ N' 85 35 = nI f)) := by
  have hn := hM.2.1
  have Z7 : ∀ nm : Stk, Zt n t T nm 87 t = nI n := fun nm => by unfold Zt; rw [if_pos rfl]
  have Z6 : ∀ (nm : Stk) (i : Nat), i < n → Zt n t T nm 86 (160 * t + i) = T i := fun nm i hi => by
    unfold Zt
    rw [if_neg (by decide), if_pos rfl, Nat.add_sub_cancel_left]
  have Zn : ∀ (nm : Stk) (j : Nat), nmN (Zt n t T nm) j = nm j := fun nm j => by
    unfold nmN Zt
    rw [if_neg (by decide), if_neg (by decide), Nat.add_sub_cancel_left]
  obtain ⟨x, M', v, N', e1, e2, e3, e4, e5, e6⟩ := read_lock (p := 0) (N := Zt n t T (fun _ => 0)) hB hg ht (by omega) hM (Z7 (fun _ => 0)) (Z6 (fun _ => 0))
  have any : ∀ (N : Mem) (p : Nat), N 87 t = nI n → (∀ i, i < n → N 86 (160 * t + i) = T i) → p < 3 → ∃ v N', fM_read (nI t) (nI p) N = some (v, N') ∧ KeepR N N' ∧ ((x = -1 ∧ N' 85 34 = 0 ∧ ∃ v0 v1 v2 w1 w2 w3, (M' (g + 2) 0 = nI w1 ∧ M' (g + 2) 1 = nI w2 ∧ M' (g + 2) 2 = nI w3) ∧ (w1 ≤ w2 ∧ w2 ≤ w3 ∧ w3 ≤ 160) ∧ (Ev (nmN N) (M' (g + 1)) 0 w1 v0 ∧ Ev (nmN N) (M' (g + 1)) w1 w2 v1 ∧ Ev (nmN N) (M' (g + 1)) w2 w3 v2) ∧ v = (if p = 0 then v0 else if p = 1 then v1 else v2)) ∨ ∃ f, f ≤ n ∧ x = nI f ∧ N' 85 34 = 1 ∧ N' 85 35 = nI f ∧ M' (g + 1) = M (g + 1) ∧ M' (g + 2) = M (g + 2)) := by
    intro N p h1 h2 hp
    obtain ⟨x2, M2, v2, N2, y1, y2, y3, y4, y5, y6⟩ := read_lock (p := p) (N := N) hB hg ht hp hM h1 h2
    rw [e1] at y1
    cases y1
    exact ⟨v2, N2, y2, y3, y6⟩
  refine ⟨x, M', e1, e4, e5, ?_⟩
  rcases e6 with ⟨hx, -, -⟩ | ⟨f, hf, hx, -, -, g1, g2⟩
  · refine Or.inl ⟨hx, ?_⟩
    have good : ∀ (N : Mem) (p : Nat), N 87 t = nI n → (∀ i, i < n → N 86 (160 * t + i) = T i) → p < 3 → ∃ N', fM_read (nI t) (nI p) N = some (tlC (M' (g + 1)) (M' (g + 2)) p (N 85 21) (N 85 22) (N 85 23) (N 85 24) (N 85 25) (N 85 26), N') ∧ KeepR N N' ∧ N' 85 34 = 0 := by
      intro N p h1 h2 hp
      obtain ⟨v, N', y1, y2, y3⟩ := any N p h1 h2 hp
      rcases y3 with ⟨-, z1, v0, v1, v2, w1, w2, w3, ⟨a1, a2, a3⟩, ⟨b1, b2, b3⟩, ⟨c1, c2, c3⟩, hv⟩ | ⟨f, z1, z2, -⟩
      · refine ⟨N', ?_, y2, z1⟩
        rw [y1, hv]
        have k : ∀ u, Ev (nmN N) (M' (g + 1)) (bgn (M' (g + 2)) p) (ix (M' (g + 2) p)) u → tlC (M' (g + 1)) (M' (g + 2)) p (N 85 21) (N 85 22) (N 85 23) (N 85 24) (N 85 25) (N 85 26) = u := fun u e => tlC_eq e
        have i1 : ix (M' (g + 2) 0) = w1 := by rw [a1, ix_nI (by omega)]
        have i2 : ix (M' (g + 2) 1) = w2 := by rw [a2, ix_nI (by omega)]
        have i3 : ix (M' (g + 2) 2) = w3 := by rw [a3, ix_nI (by omega)]
        rcases (by omega : p = 0 ∨ p = 1 ∨ p = 2) with rfl | rfl | rfl
        · rw [k v0 (by rw [i1]; exact c1), if_pos rfl]
        · rw [k v1 (by rw [i2, bgn, if_neg (by decide), i1]; exact c2), if_neg (by decide), if_pos rfl]
        · rw [k v2 (by rw [i3, bgn, if_neg (by decide), i2]; exact c3), if_neg (by decide), if_neg (by decide)]
      · exact absurd (hx.symm.trans z2) (nI_m1 (show f < 2147483648 by omega)).symm
    refine ⟨?_, good⟩
    have wf : ∀ nm, ∃ v0 v1 v2 w1 w2 w3, (M' (g + 2) 0 = nI w1 ∧ M' (g + 2) 1 = nI w2 ∧ M' (g + 2) 2 = nI w3) ∧ (w1 ≤ w2 ∧ w2 ≤ w3 ∧ w3 ≤ 160) ∧ (Ev nm (M' (g + 1)) 0 w1 v0 ∧ Ev nm (M' (g + 1)) w1 w2 v1 ∧ Ev nm (M' (g + 1)) w2 w3 v2) := by
      intro nm
      obtain ⟨v, N', y1, y2, y3⟩ := any (Zt n t T nm) 0 (Z7 nm) (Z6 nm) (by omega)
      rcases y3 with ⟨-, z1, v0, v1, v2, w1, w2, w3, a, b, ⟨c1, c2, c3⟩, hv⟩ | ⟨f, z1, z2, -⟩
      · exact ⟨v0, v1, v2, w1, w2, w3, a, b, c1.nm (fun j _ => (Zn nm j).symm), c2.nm (fun j _ => (Zn nm j).symm), c3.nm (fun j _ => (Zn nm j).symm)⟩
      · exact absurd (hx.symm.trans z2) (nI_m1 (show f < 2147483648 by omega)).symm
    constructor
    · intro p hp
      obtain ⟨v0, v1, v2, w1, w2, w3, ⟨a1, a2, a3⟩, ⟨b1, b2, b3⟩, -⟩ := wf (fun _ => 0)
      rcases (by omega : p = 0 ∨ p = 1 ∨ p = 2) with rfl | rfl | rfl
      · rw [a1, ix_nI (by omega)]; exact ⟨rfl, Nat.zero_le _, by omega⟩
      · rw [a2, ix_nI (by omega), bgn, if_neg (by decide), a1, ix_nI (by omega)]; exact ⟨rfl, b1, by omega⟩
      · rw [a3, ix_nI (by omega), bgn, if_neg (by decide), a2, ix_nI (by omega)]; exact ⟨rfl, b2, by omega⟩
    · intro nm p hp
      obtain ⟨v0, v1, v2, w1, w2, w3, ⟨a1, a2, a3⟩, ⟨b1, b2, b3⟩, c1, c2, c3⟩ := wf nm
      rcases (by omega : p = 0 ∨ p = 1 ∨ p = 2) with rfl | rfl | rfl
      · rw [a1, ix_nI (by omega)]; exact ⟨v0, c1⟩
      · rw [a2, ix_nI (by omega), bgn, if_neg (by decide), a1, ix_nI (by omega)]; exact ⟨v1, c2⟩
      · rw [a3, ix_nI (by omega), bgn, if_neg (by decide), a2, ix_nI (by omega)]; exact ⟨v2, c3⟩
  · refine Or.inr ⟨f, hf, hx, g1, g2, fun N p h1 h2 hp => ?_⟩
    obtain ⟨v, N', y1, y2, y3⟩ := any N p h1 h2 hp
    rcases y3 with ⟨z1, -⟩ | ⟨f2, z1, z2, z3, z4, -⟩
    · exact absurd (z1.symm.trans hx) (nI_m1 (show f < 2147483648 by omega)).symm
    · rw [hx, n_eq (by omega) (by omega)] at z2
      subst z2
      exact ⟨v, N', y1, y2, z3, z4⟩
end
section
/-! 40: how the class and the model stand to each other -/
def RS (M : Mem) : Prop := ∃ s, s < 4 ∧ M 1 0 = nI s ∧ M 85 7 = nI s
def RTY (M : Mem) : Prop := ∃ n, n ≤ 8 ∧ M 1 1 = nI n ∧ M 85 11 = nI n ∧ ∀ i, i < n → ib (M 2 i) 8 ∧ M 90 i = M 2 i ∧ (1 ≤ (M 3 i).toInt ∧ (M 3 i).toInt ≤ 50) ∧ M 91 i = M 3 i
def RW (M : Mem) : Prop := ∀ r, r < 8 → ib (M 4 r) 100 ∧ M 89 r = M 4 r
def MD (M : Mem) (k : Nat) : Prop := (ib (M (6 + 2 * k) 0) 6 ∧ M 92 k = M (6 + 2 * k) 0) ∧ (ib (M (6 + 2 * k) 1) 10 ∧ M 93 k = M (6 + 2 * k) 1) ∧ (ib (M (6 + 2 * k) 2) 8 ∧ M 94 k = M (6 + 2 * k) 2) ∧ ∃ l, l ≤ 5 ∧ M (6 + 2 * k) 3 = nI l ∧ M 96 k = nI l ∧ ∀ i, i < l → ib (M (7 + 2 * k) i) 8 ∧ M 95 (5 * k + i) = M (7 + 2 * k) i
def RM (M : Mem) : Prop := ∃ m, m ≤ 4 ∧ M 1 2 = nI m ∧ M 85 17 = nI m ∧ ∀ k, k < m → MD M k
def RX (M : Mem) : Prop := ∃ c r, 1 ≤ c ∧ c ≤ 6 ∧ M 0 6 = nI c ∧ M 85 3 = nI c ∧ r < c ∧ M 1 3 = nI r ∧ M 85 4 = nI r ∧ ∀ t, t < c → TX t M
def RP (M : Mem) : Prop := ∃ n, n ≤ 160 ∧ M 40 1 = nI n ∧ M 85 6 = nI n ∧ ∀ i, i < n → M 88 i = M 41 i ∧ ib (M 41 i) 256
def SH (M : Mem) (s : Nat) : Prop := (M (77 + 2 * s) 0 = -1 ∧ M 109 s = 0) ∨ ∃ q n, q < 3 ∧ n ≤ 40 ∧ M (77 + 2 * s) 0 = nI q ∧ M (77 + 2 * s) 1 = nI n ∧ M 109 s = 1 ∧ M 110 s = nI q ∧ M 111 s = nI n ∧ ∀ i, i < n → M 112 (40 * s + i) = M (78 + 2 * s) i
def RH (M : Mem) : Prop := ∀ s, s < 4 → SH M s
def KD (M : Mem) (k : Nat) : Prop := (ib (M (19 + 2 * k) 0) 6 ∧ M 92 k = M (19 + 2 * k) 0) ∧ (ib (M (19 + 2 * k) 1) 10 ∧ M 108 k = M (19 + 2 * k) 1) ∧ (ib (M (19 + 2 * k) 2) 8 ∧ M 108 (4 + k) = M (19 + 2 * k) 2) ∧ ∃ l, l ≤ 5 ∧ M (19 + 2 * k) 3 = nI l ∧ M 108 (8 + k) = nI l ∧ ∀ i, i < l → ib (M (20 + 2 * k) i) 8 ∧ M 108 (12 + (5 * k + i)) = M (20 + 2 * k) i
def KP (M : Mem) : Prop := (∃ s, s < 4 ∧ M 14 0 = nI s ∧ M 85 52 = nI s) ∧ (∃ n, n ≤ 8 ∧ M 14 1 = nI n ∧ M 85 53 = nI n ∧ ∀ i, i < n → ib (M 15 i) 8 ∧ M 107 (8 + i) = M 15 i ∧ (1 ≤ (M 16 i).toInt ∧ (M 16 i).toInt ≤ 50) ∧ M 107 (16 + i) = M 16 i) ∧ (∀ r, r < 8 → ib (M 17 r) 100 ∧ M 107 r = M 17 r) ∧ (∃ m, m ≤ 4 ∧ M 14 2 = nI m ∧ M 85 51 = nI m ∧ m ≤ ix (M 1 2) ∧ ∀ k, k < m → KD M k) ∧ ∃ r, r < ix (M 0 6) ∧ r < 6 ∧ M 14 3 = nI r ∧ M 85 54 = nI r
def RK (M : Mem) : Prop := (M 0 3 = 0 ∧ M 85 51 = -1) ∨ (M 0 3 ≠ 0 ∧ KP M)
def RA (M : Mem) : Prop := M 85 18 = -1 ∧ LW M
def Rel (M : Mem) : Prop := RS M ∧ RTY M ∧ RW M ∧ RM M ∧ RX M ∧ RP M ∧ RH M ∧ RK M ∧ RA M
/-! what each part looks at -/
theorem RS.same {M N : Mem} (h : RS M) (a : N 1 0 = M 1 0) (b : N 85 7 = M 85 7) : RS N := by unfold RS; rw [a, b]; exact h
theorem RTY.same {M N : Mem} (h : RTY M) (a : N 1 1 = M 1 1) (b : N 85 11 = M 85 11) (c : N 2 = M 2) (d : N 3 = M 3) (e : N 90 = M 90) (f : N 91 = M 91) : RTY N := by unfold RTY; rw [a, b, c, d, e, f]; exact h
theorem RW.same {M N : Mem} (h : RW M) (a : N 4 = M 4) (b : N 89 = M 89) : RW N := by unfold RW; rw [a, b]; exact h
theorem MD.same {M N : Mem} {k : Nat} (h : MD M k) (a : N (6 + 2 * k) = M (6 + 2 * k)) (b : N (7 + 2 * k) = M (7 + 2 * k)) (c : N 92 = M 92) (d : N 93 = M 93) (e : N 94 = M 94) (f : N 95 = M 95) (g : N 96 = M 96) : MD N k := by unfold MD; rw [a, b, c, d, e, f, g]; exact h
theorem RM.same {M N : Mem} (h : RM M) (a : N 1 2 = M 1 2) (b : N 85 17 = M 85 17) (z : ∀ x, 6 ≤ x → x < 14 → N x = M x) (c : N 92 = M 92) (d : N 93 = M 93) (e : N 94 = M 94) (f : N 95 = M 95) (g : N 96 = M 96) : RM N := by
  obtain ⟨m, h1, h2, h3, h4⟩ := h
  exact ⟨m, h1, a.trans h2, b.trans h3, fun k hk => (h4 k hk).same (z _ (by omega) (by omega)) (z _ (by omega) (by omega)) c d e f g⟩
theorem TX.same {t : Nat} {M N : Mem} (h : TX t M) (a : N (60 + 3 * t) = M (60 + 3 * t)) (b : N (61 + 3 * t) = M (61 + 3 * t)) (c : N 87 t = M 87 t) (d : ∀ i, i < 160 → N 86 (160 * t + i) = M 86 (160 * t + i)) : TX t N := by
  unfold TX
  rw [a, b]
  obtain ⟨h1, n, T, h2, h3, h4, h5⟩ := h
  exact ⟨h1, n, T, h2, c.trans h3, fun i hi => (d i (by omega)).trans (h4 i hi), h5⟩
theorem RX.same {M N : Mem} (h : RX M) (a : N 0 6 = M 0 6) (b : N 85 3 = M 85 3) (c : N 1 3 = M 1 3) (d : N 85 4 = M 85 4) (z : ∀ x, 59 ≤ x → x < 77 → N x = M x) (e : N 86 = M 86) (f : N 87 = M 87) : RX N := by
  obtain ⟨n, r, h1, h2, h3, h4, h5, h6, h7, h8⟩ := h
  exact ⟨n, r, h1, h2, a.trans h3, b.trans h4, h5, c.trans h6, d.trans h7, fun t ht => (h8 t ht).same (z _ (by omega) (by omega)) (z _ (by omega) (by omega)) (by rw [f]) (fun i _ => by rw [e])⟩
theorem RP.same {M N : Mem} (h : RP M) (a : N 40 1 = M 40 1) (b : N 85 6 = M 85 6) (c : N 41 = M 41) (d : N 88 = M 88) : RP N := by unfold RP; rw [a, b, c, d]; exact h
theorem SH.same {M N : Mem} {s : Nat} (h : SH M s) (a : N (77 + 2 * s) = M (77 + 2 * s)) (b : N (78 + 2 * s) = M (78 + 2 * s)) (c : N 109 s = M 109 s) (d : N 110 s = M 110 s) (e : N 111 s = M 111 s) (f : ∀ i, i < 40 → N 112 (40 * s + i) = M 112 (40 * s + i)) : SH N s := by
  unfold SH
  rw [a, b, c, d, e]
  rcases h with h | ⟨q, n, h1, h2, h3, h4, h5, h6, h7, h8⟩
  · exact Or.inl h
  · exact Or.inr ⟨q, n, h1, h2, h3, h4, h5, h6, h7, fun i hi => (f i (by omega)).trans (h8 i hi)⟩
theorem RH.same {M N : Mem} (h : RH M) (z : ∀ x, 77 ≤ x → x < 85 → N x = M x) (c : N 109 = M 109) (d : N 110 = M 110) (e : N 111 = M 111) (f : N 112 = M 112) : RH N := fun s hs => (h s hs).same (z _ (by omega) (by omega)) (z _ (by omega) (by omega)) (by rw [c]) (by rw [d]) (by rw [e]) (fun _ _ => by rw [f])
theorem KD.same {M N : Mem} {k : Nat} (h : KD M k) (a : N (19 + 2 * k) = M (19 + 2 * k)) (b : N (20 + 2 * k) = M (20 + 2 * k)) (c : N 92 k = M 92 k) (d : N 108 = M 108) : KD N k := by unfold KD; rw [a, b, c, d]; exact h
theorem RK.same {M N : Mem} (h : RK M) (a : N 0 3 = M 0 3) (z : ∀ x, 14 ≤ x → x < 27 → N x = M x) (b : ∀ j, 51 ≤ j → j ≤ 54 → N 85 j = M 85 j) (c : N 107 = M 107) (d : N 108 = M 108) (e : ∀ k, k < ix (M 1 2) → k < 4 → N 92 k = M 92 k) (f : ix (M 1 2) ≤ ix (N 1 2)) (g : ix (M 0 6) ≤ ix (N 0 6)) : RK N := by
  unfold RK
  rw [a, b 51 (by omega) (by omega)]
  rcases h with h | ⟨h0, h1, h2, h3, ⟨m, h4, h5, h6, h7, h8⟩, r, h9, h10, h11, h12⟩
  · exact Or.inl h
  · refine Or.inr ⟨h0, ?_, ?_, ?_, ⟨m, h4, by rw [z 14 (by omega) (by omega)]; exact h5, by rw [b 51 (by omega) (by omega)]; exact h6, by omega, fun k hk => (h8 k hk).same (z _ (by omega) (by omega)) (z _ (by omega) (by omega)) (e k (by omega) (by omega)) d⟩, r, by omega, h10, by rw [z 14 (by omega) (by omega)]; exact h11, by rw [b 54 (by omega) (by omega)]; exact h12⟩
    · rw [z 14 (by omega) (by omega), b 52 (by omega) (by omega)]; exact h1
    · rw [z 14 (by omega) (by omega), z 15 (by omega) (by omega), z 16 (by omega) (by omega), b 53 (by omega) (by omega), c]; exact h2
    · rw [z 17 (by omega) (by omega), c]; exact h3
theorem RA.same {M N : Mem} (h : RA M) (a : N 85 18 = M 85 18) (lw : LW N) : RA N := ⟨a.trans h.1, lw⟩
theorem LW.same {M N : Mem} (h : LW M) (a : N 46 1 = M 46 1) (b : N 47 = M 47) : LW N := by
  intro s hs e i hi
  rw [b]
  exact h s hs (a ▸ e) i hi
/-- what Rel does not look at may change -/
def Same (M N : Mem) : Prop := (∀ a, ((2 ≤ a ∧ a < 27 ∧ a ≠ 5) ∨ a = 41 ∨ (59 ≤ a ∧ a < 85) ∨ (86 ≤ a ∧ a < 97) ∨ 107 ≤ a) → N a = M a) ∧ (N 0 3 = M 0 3 ∧ N 0 6 = M 0 6) ∧ (∀ j, j < 4 → N 1 j = M 1 j) ∧ N 40 1 = M 40 1 ∧ ∀ j, (j < 20 ∨ (51 ≤ j ∧ j ≤ 54)) → N 85 j = M 85 j
theorem Rel.same {M N : Mem} (h : Rel M) (k : Same M N) (lw : LW N) : Rel N := by
  obtain ⟨h1, h2, h3, h4, h5, h6, h7, h8, h9⟩ := h
  obtain ⟨k1, ⟨k2, k2'⟩, k3, k4, k5⟩ := k
  refine ⟨h1.same (k3 0 (by omega)) (k5 7 (by omega)), h2.same (k3 1 (by omega)) (k5 11 (by omega)) (k1 2 (by omega)) (k1 3 (by omega)) (k1 90 (by omega)) (k1 91 (by omega)), h3.same (k1 4 (by omega)) (k1 89 (by omega)), h4.same (k3 2 (by omega)) (k5 17 (by omega)) (fun x a b => k1 x (by omega)) (k1 92 (by omega)) (k1 93 (by omega)) (k1 94 (by omega)) (k1 95 (by omega)) (k1 96 (by omega)), h5.same k2' (k5 3 (by omega)) (k3 3 (by omega)) (k5 4 (by omega)) (fun x a b => k1 x (by omega)) (k1 86 (by omega)) (k1 87 (by omega)), h6.same k4 (k5 6 (by omega)) (k1 41 (by omega)) (k1 88 (by omega)), h7.same (fun x a b => k1 x (by omega)) (k1 109 (by omega)) (k1 110 (by omega)) (k1 111 (by omega)) (k1 112 (by omega)), h8.same k2 (fun x a b => k1 x (by omega)) (fun j a b => k5 j (by omega)) (k1 107 (by omega)) (k1 108 (by omega)) (fun k _ _ => by rw [k1 92 (by omega)]) ?_ ?_, h9.same (k5 18 (by omega)) lw⟩
  · rw [k3 2 (by omega)]; exact Nat.le_refl _
  · rw [k2']; exact Nat.le_refl _
theorem Same.trans {M N O : Mem} (a : Same M N) (b : Same N O) : Same M O := by
  obtain ⟨a1, ⟨a2, a2'⟩, a3, a4, a5⟩ := a
  obtain ⟨b1, ⟨b2, b2'⟩, b3, b4, b5⟩ := b
  exact ⟨fun x h => (b1 x h).trans (a1 x h), ⟨b2.trans a2, b2'.trans a2'⟩, fun j h => (b3 j h).trans (a3 j h), b4.trans a4, fun j h => (b5 j h).trans (a5 j h)⟩
theorem Same.rfl' {M : Mem} : Same M M := ⟨fun _ _ => rfl, ⟨rfl, rfl⟩, fun _ _ => rfl, rfl, fun _ _ => rfl⟩
theorem KeepD.s {M N : Mem} (k : KeepD M N) : Same M N := ⟨fun a h => k a (by omega), ⟨by rw [k 0 (by omega)], by rw [k 0 (by omega)]⟩, fun j _ => by rw [k 1 (by omega)], by rw [k 40 (by omega)], fun j _ => by rw [k 85 (by omega)]⟩
theorem KeepL.s {M N : Mem} (k : KeepL M N) : Same M N := ⟨fun a h => k.1 a (by omega) (by omega), ⟨by rw [k.1 0 (by omega) (by omega)], by rw [k.1 0 (by omega) (by omega)]⟩, fun j _ => by rw [k.1 1 (by omega) (by omega)], by rw [k.1 40 (by omega) (by omega)], fun j h => k.2 j (by omega)⟩
theorem KeepL.lw {M N : Mem} (k : KeepL M N) (h : LW M) : LW N := h.same (by rw [k.1 46 (by omega) (by omega)]) (k.1 47 (by omega) (by omega))
/-! the house as it is seen -/
theorem Rel.view {M : Mem} (h : Rel M) : ∃ tl, HV 1 (viewC 1 M) tl M ∧ MO0 (viewC 1 M) 4 tl M ∧ DOK (viewC 1 M) (startS (viewC 1 M)) := by
  obtain ⟨⟨s, s1, s2, s3⟩, ⟨n, n1, n2, n3, n4⟩, hw, ⟨m, m1, m2, m3, m4⟩, ⟨c, r, c1, c2, c3, c4, r1, r2, r3, ct⟩, -, -, -, ha, lw⟩ := h
  have v00 : viewC 1 M 0 0 = nI s := s2
  have v01 : viewC 1 M 0 1 = nI n := n2
  have v02 : viewC 1 M 0 2 = nI m := m2
  have es : vS (viewC 1 M) = s := by show ix (viewC 1 M 0 0) = s; rw [v00, ix_nI (by omega)]
  have en : vN (viewC 1 M) = n := by show ix (viewC 1 M 0 1) = n; rw [v01, ix_nI (by omega)]
  have em : vM (viewC 1 M) = m := by show ix (viewC 1 M 0 2) = m; rw [v02, ix_nI (by omega)]
  have in1 : ix (M 1 1) = n := by rw [n2, ix_nI (by omega)]
  have im : ix (M 1 2) = m := by rw [m2, ix_nI (by omega)]
  have v1 : ∀ i, i < n → viewC 1 M 1 i = M 2 i := fun i hi => by
    show (if i < ix (M 1 1) then M 2 i else 0) = _; rw [in1, if_pos hi]
  have v2 : ∀ i, i < n → viewC 1 M 2 i = M 3 i := fun i hi => by
    show (if i < ix (M 1 1) then M 3 i else 0) = _; rw [in1, if_pos hi]
  have v3 : ∀ i, i < 8 → viewC 1 M 3 i = M 4 i := fun i hi => by
    show (if i < 8 then M 4 i else 0) = _; rw [if_pos hi]
  have v4 : ∀ q, q < 4 → ∀ k, k < m → viewC 1 M (4 + q) k = M (6 + 2 * k) q := fun q hq k hk => by
    unfold viewC
    rw [if_neg (by omega), if_neg (by omega), if_neg (by omega), if_neg (by omega), if_pos (by omega), im, if_pos hk, Nat.add_sub_cancel_left]
  have el : ∀ k, k < m → ∀ l, M (6 + 2 * k) 3 = nI l → l ≤ 5 → vL (viewC 1 M) k = l := fun k hk l h h5 => by
    show ix (viewC 1 M (4 + 3) k) = l; rw [v4 3 (by omega) k hk, h, ix_nI (by omega)]
  have v8 : ∀ k, k < m → ∀ l, M (6 + 2 * k) 3 = nI l → l ≤ 5 → ∀ i, i < l → viewC 1 M (8 + k) i = M (7 + 2 * k) i := fun k hk l h h5 i hi => by
    unfold viewC
    rw [if_neg (by omega), if_neg (by omega), if_neg (by omega), if_neg (by omega), if_neg (by omega), Nat.add_sub_cancel_left, im, show 1 + 5 + 2 * k = 6 + 2 * k by omega, h, ix_nI (by omega), if_pos ⟨hk, hi⟩]
  have vo : VOK (viewC 1 M) := by
    refine ⟨⟨by rw [es]; exact v00, by rw [es]; exact s1⟩, ⟨by rw [en]; exact v01, by rw [en]; exact ⟨n1, fun i hi => by rw [v2 i hi]; exact (n4 i hi).2.2.1⟩⟩, ⟨by rw [em]; exact v02, by rw [em]; exact m1⟩, fun k hk => ?_⟩
    rw [em] at hk
    obtain ⟨⟨d1, d1'⟩, ⟨d2, d2'⟩, ⟨d3, d3'⟩, l, l1, l2, l3, l4⟩ := m4 k hk
    refine ⟨?_, ?_, ⟨?_, ?_⟩, fun i hi => ?_⟩
    · rw [v4 1 (by omega) k hk]; have := d2.1; have := d2.2; omega
    · rw [v4 2 (by omega) k hk]; exact d3
    · rw [el k hk l l2 l1, v4 3 (by omega) k hk]; exact l2
    · rw [el k hk l l2 l1]; exact l1
    · rw [el k hk l l2 l1] at hi
      rw [v8 k hk l l2 l1 i hi]; exact (l4 i hi).1
  have ir : ix (M 1 3) = r := by rw [r2, ix_nI (by omega)]
  have tx := ct r r1
  refine ⟨tlC (M (60 + 3 * r)) (M (61 + 3 * r)), ⟨by decide, rfl, vo, by rw [r2]; exact ib_nI (by omega) (by omega), ?_, lw⟩, ⟨vo, ?_, ?_⟩, DOK.start vo (startS_start _)⟩
  · rw [ir]
    exact VCl_of (by omega) tx.1
  · refine ⟨⟨Nat.le_refl _, fun h => absurd h (by omega)⟩, by rw [es]; exact s3, by rw [en]; exact n3, ?_, ?_, fun i hi => ?_, fun q hq => ?_, fun k hk => ?_⟩
    · unfold cntM; rw [if_neg (by omega), em]; exact m3
    · rw [if_neg (by omega)]; exact ha
    · rw [en] at hi
      rw [v1 i hi, v2 i hi]; exact ⟨(n4 i hi).2.1, (n4 i hi).2.2.2⟩
    · rw [v3 q hq]; exact (hw q hq).2
    · rw [em] at hk
      have hs : sk 4 k = k := by unfold sk; rw [if_pos (by omega)]
      obtain ⟨⟨d1, d1'⟩, ⟨d2, d2'⟩, ⟨d3, d3'⟩, l, l1, l2, l3, l4⟩ := m4 k hk
      rw [hs]
      refine ⟨⟨?_, ?_, ?_, ?_⟩, fun i hi => ?_⟩
      · exact d1'.trans (v4 0 (by omega) k hk).symm
      · exact d2'.trans (v4 1 (by omega) k hk).symm
      · exact d3'.trans (v4 2 (by omega) k hk).symm
      · exact (l3.trans l2.symm).trans (v4 3 (by omega) k hk).symm
      · rw [el k hk l l2 l1] at hi
        rw [v8 k hk l l2 l1 i hi]; exact (l4 i hi).2
  · rw [r3]
    exact tx.vmo
/-- a call that both answer alike -/
def Op (c m : Mem → Option (Int32 × Mem)) : Prop := ∀ M, Rel M → ∃ v M1 M2, c M = some (v, M1) ∧ m M1 = some (v, M2) ∧ Rel M2
end
section
/-! 41: one write that a part does not look at -/
theorem RS.put {M : Mem} {k j : Nat} {v : Int32} (h : RS M) (c : ¬ (k = 1 ∧ j = 0) ∧ ¬ (k = 85 ∧ j = 7)) : RS (wr M k j v) := h.same (if_neg (by omega)) (if_neg (by omega))
theorem RTY.put {M : Mem} {k j : Nat} {v : Int32} (h : RTY M) (c : ¬ (k = 1 ∧ j = 1) ∧ ¬ (k = 85 ∧ j = 11) ∧ k ≠ 2 ∧ k ≠ 3 ∧ k ≠ 90 ∧ k ≠ 91) : RTY (wr M k j v) := h.same (if_neg (by omega)) (if_neg (by omega)) (wr_ne (by omega)) (wr_ne (by omega)) (wr_ne (by omega)) (wr_ne (by omega))
theorem RW.put {M : Mem} {k j : Nat} {v : Int32} (h : RW M) (c : k ≠ 4 ∧ k ≠ 89) : RW (wr M k j v) := h.same (wr_ne (by omega)) (wr_ne (by omega))
theorem RM.put {M : Mem} {k j : Nat} {v : Int32} (h : RM M) (c : ¬ (k = 1 ∧ j = 2) ∧ ¬ (k = 85 ∧ j = 17) ∧ (k < 6 ∨ 14 ≤ k) ∧ (k < 92 ∨ 96 < k)) : RM (wr M k j v) := h.same (if_neg (by omega)) (if_neg (by omega)) (fun x _ _ => wr_ne (by omega)) (wr_ne (by omega)) (wr_ne (by omega)) (wr_ne (by omega)) (wr_ne (by omega)) (wr_ne (by omega))
theorem RX.put {M : Mem} {k j : Nat} {v : Int32} (h : RX M) (c : ¬ (k = 0 ∧ j = 6) ∧ ¬ (k = 85 ∧ j = 3) ∧ ¬ (k = 1 ∧ j = 3) ∧ ¬ (k = 85 ∧ j = 4) ∧ (k < 59 ∨ 77 ≤ k) ∧ k ≠ 86 ∧ k ≠ 87) : RX (wr M k j v) := h.same (if_neg (by omega)) (if_neg (by omega)) (if_neg (by omega)) (if_neg (by omega)) (fun x _ _ => wr_ne (by omega)) (wr_ne (by omega)) (wr_ne (by omega))
theorem RP.put {M : Mem} {k j : Nat} {v : Int32} (h : RP M) (c : ¬ (k = 40 ∧ j = 1) ∧ ¬ (k = 85 ∧ j = 6) ∧ k ≠ 41 ∧ k ≠ 88) : RP (wr M k j v) := h.same (if_neg (by omega)) (if_neg (by omega)) (wr_ne (by omega)) (wr_ne (by omega))
theorem RH.put {M : Mem} {k j : Nat} {v : Int32} (h : RH M) (c : (k < 77 ∨ 85 ≤ k) ∧ (k < 109 ∨ 112 < k)) : RH (wr M k j v) := h.same (fun x _ _ => wr_ne (by omega)) (wr_ne (by omega)) (wr_ne (by omega)) (wr_ne (by omega)) (wr_ne (by omega))
theorem RK.put {M : Mem} {k j : Nat} {v : Int32} (h : RK M) (c : ¬ (k = 0 ∧ j = 3) ∧ ¬ (k = 0 ∧ j = 6) ∧ ¬ (k = 1 ∧ j = 2) ∧ (k < 14 ∨ 27 ≤ k) ∧ ¬ (k = 85 ∧ 51 ≤ j ∧ j ≤ 54) ∧ k ≠ 92 ∧ k ≠ 107 ∧ k ≠ 108) : RK (wr M k j v) := h.same (if_neg (by omega)) (fun x _ _ => wr_ne (by omega)) (fun i _ _ => if_neg (by omega)) (wr_ne (by omega)) (wr_ne (by omega)) (fun i _ _ => if_neg (by omega)) (by rw [show wr M k j v 1 2 = M 1 2 from if_neg (by omega)]; exact Nat.le_refl _) (by rw [show wr M k j v 0 6 = M 0 6 from if_neg (by omega)]; exact Nat.le_refl _)
theorem RA.put {M : Mem} {k j : Nat} {v : Int32} (h : RA M) (c : ¬ (k = 85 ∧ j = 18) ∧ ¬ (k = 46 ∧ j = 1) ∧ k ≠ 47) : RA (wr M k j v) := h.same (if_neg (by omega)) (h.2.same (if_neg (by omega)) (wr_ne (by omega)))
end
section
/-! 42: guards; the simple calls -/
theorem nn {p : Prop} (h : p) : ¬ ¬ p := fun z => z h
theorem fN_w (a : Int32) (N : Nat) (M : Mem) (h : N < 2147483648) : fN_within a (nI N) M = some (bz (ib a N), M) := by
  rw [fN_within_eq]
  exact congrArg (fun x => some (x, M)) (bz_iff (by rw [nI_t h]))
theorem fN_w2 (a : Int32) (M : Mem) : fN_within a 2 M = some (bz (ib a 2), M) := fN_w a 2 M (by omega)
theorem fN_w3 (a : Int32) (M : Mem) : fN_within a 3 M = some (bz (ib a 3), M) := fN_w a 3 M (by omega)
theorem fN_w4 (a : Int32) (M : Mem) : fN_within a 4 M = some (bz (ib a 4), M) := fN_w a 4 M (by omega)
theorem fN_w5 (a : Int32) (M : Mem) : fN_within a 5 M = some (bz (ib a 5), M) := fN_w a 5 M (by omega)
theorem fN_w6 (a : Int32) (M : Mem) : fN_within a 6 M = some (bz (ib a 6), M) := fN_w a 6 M (by omega)
theorem fN_w8 (a : Int32) (M : Mem) : fN_within a 8 M = some (bz (ib a 8), M) := fN_w a 8 M (by omega)
theorem fN_w10 (a : Int32) (M : Mem) : fN_within a 10 M = some (bz (ib a 10), M) := fN_w a 10 M (by omega)
theorem fN_w100 (a : Int32) (M : Mem) : fN_within a 100 M = some (bz (ib a 100), M) := fN_w a 100 M (by omega)
theorem fN_w256 (a : Int32) (M : Mem) : fN_within a 256 M = some (bz (ib a 256), M) := fN_w a 256 M (by omega)
theorem fM_ib (a : Int32) (x y : Int64) (N : Nat) (M : Mem) (hx : x.toInt = 0) (hy : y.toInt + 1 = N) : fM_in a.toInt64 x y M = some (bz (ib a N), M) := by
  rw [fM_in_eq]
  exact congrArg (fun x => some (x, M)) (bz_iff (by rw [t64, hx]; unfold ib; omega))
theorem fM_i2 (a : Int32) (M : Mem) : fM_in a.toInt64 (0 : Int64) (1 : Int64) M = some (bz (ib a 2), M) := fM_ib a 0 1 2 M rfl rfl
theorem fM_i3 (a : Int32) (M : Mem) : fM_in a.toInt64 (0 : Int64) (2 : Int64) M = some (bz (ib a 3), M) := fM_ib a 0 2 3 M rfl rfl
theorem fM_i4 (a : Int32) (M : Mem) : fM_in a.toInt64 (0 : Int64) (3 : Int64) M = some (bz (ib a 4), M) := fM_ib a 0 3 4 M rfl rfl
theorem fM_i5 (a : Int32) (M : Mem) : fM_in a.toInt64 (0 : Int64) (4 : Int64) M = some (bz (ib a 5), M) := fM_ib a 0 4 5 M rfl rfl
theorem fM_i6 (a : Int32) (M : Mem) : fM_in a.toInt64 (0 : Int64) (5 : Int64) M = some (bz (ib a 6), M) := fM_ib a 0 5 6 M rfl rfl
theorem fM_i7 (a : Int32) (M : Mem) : fM_in a.toInt64 (0 : Int64) (6 : Int64) M = some (bz (ib a 7), M) := fM_ib a 0 6 7 M rfl rfl
theorem fM_i8 (a : Int32) (M : Mem) : fM_in a.toInt64 (0 : Int64) (7 : Int64) M = some (bz (ib a 8), M) := fM_ib a 0 7 8 M rfl rfl
theorem fM_i10 (a : Int32) (M : Mem) : fM_in a.toInt64 (0 : Int64) (9 : Int64) M = some (bz (ib a 10), M) := fM_ib a 0 9 10 M rfl rfl
theorem fM_i100 (a : Int32) (M : Mem) : fM_in a.toInt64 (0 : Int64) (99 : Int64) M = some (bz (ib a 100), M) := fM_ib a 0 99 100 M rfl rfl
theorem fM_i101 (a : Int32) (M : Mem) : fM_in a.toInt64 (0 : Int64) (100 : Int64) M = some (bz (ib a 101), M) := fM_ib a 0 100 101 M rfl rfl
theorem fM_i256 (a : Int32) (M : Mem) : fM_in a.toInt64 (0 : Int64) (255 : Int64) M = some (bz (ib a 256), M) := fM_ib a 0 255 256 M rfl rfl
theorem fM_iv (a : Int32) (x y : Int64) (lo hi : Int) (M : Mem) (hx : x.toInt = lo) (hy : y.toInt = hi) : fM_in a.toInt64 x y M = some (bz (lo ≤ a.toInt ∧ a.toInt ≤ hi), M) := by
  rw [fM_in_eq]
  exact congrArg (fun x => some (x, M)) (bz_iff (by rw [t64, hx, hy]))
theorem fM_r8 (a : Int32) (M : Mem) : fM_isRoom a M = some (bz (ib a 8), M) := fM_isRoom_eq a M
theorem fM_s4 (a : Int32) (M : Mem) : fM_isSheet a M = some (bz (ib a 4), M) := fM_isSheet_eq a M
theorem fM_mm {m : Nat} (a : Int32) (M : Mem) (hm : m ≤ 4) (h : M 85 17 = nI m) : fM_isMaid a M = some (bz (ib a m), M) := by
  rw [fM_isMaid_eq a M (by rw [h, nI_t (by omega)]; omega)]
  exact congrArg (fun x => some (x, M)) (bz_iff (by rw [h, nI_t (by omega)]))
theorem fM_ss {n : Nat} (a : Int32) (M : Mem) (hm : n ≤ 8) (h : M 85 11 = nI n) : fM_isStay a M = some (bz (ib a n), M) := by
  rw [fM_isStay_eq a M (by rw [h, nI_t (by omega)]; omega)]
  exact congrArg (fun x => some (x, M)) (bz_iff (by rw [h, nI_t (by omega)]))
theorem ib_mono {a : Int32} {m n : Nat} (h : ib a m) (e : m ≤ n) : ib a n := ⟨h.1, by have := h.2; omega⟩
theorem op_stay (a b : Int32) : Op (fN_stay a b) (fM_stay a b) := by
  intro M hR
  obtain ⟨h1, ⟨n, n1, n2, n3, n4⟩, h3, h4, h5, h6, h7, h8, h9⟩ := hR
  have hR : Rel M := ⟨h1, ⟨n, n1, n2, n3, n4⟩, h3, h4, h5, h6, h7, h8, h9⟩
  have e1 : ([0, 0, 0, 1, 0, 0] : List Int32).getD (ix 3) 0 = 1 := rfl
  have e50 : ([3, 99, 7, 50, 9, 7] : List Int32).getD (ix 3) 0 = 50 := rfl
  have t1 : (1 : Int32).toInt = 1 := rfl
  have t50 : (50 : Int32).toInt = 50 := rfl
  unfold fN_stay fM_stay
  simp only [fN_w8, fM_r8, fM_iv b 1 50 1 50 _ rfl rfl, Option.bind_some, bz_0, e1, e50, if_pos (show ib 3 6 by decide)]
  by_cases g1 : ib a 8
  · rw [if_neg (nn g1)]
    by_cases g2 : 1 ≤ b.toInt ∧ b.toInt ≤ 50
    · rw [if_neg (by rw [i_lt, t1]; omega), if_pos (by rw [i_le, t50]; omega), n2]
      by_cases g3 : n = 8
      · subst g3
        refine ⟨-4, M, M, ?_, ?_, hR⟩
        · rw [if_neg (by decide)]
        · rw [if_neg (nn g1), if_neg (nn g2), n3, if_pos (by decide)]
      · rw [if_pos (by rw [show (8 : Int32) = nI 8 from rfl, n_lt (by omega) (by omega)]; omega), if_pos (ib_nI (by omega) (by omega)), ix_nI (by omega), wr_ne (show 1 ≠ 2 by decide), n2, if_pos (ib_nI (by omega) (by omega)), ix_nI (by omega), wr_ne (show 1 ≠ 3 by decide), wr_ne (show 1 ≠ 2 by decide), n2, nI_1, wr_same]
        have q3 : (wr (wr (wr M 2 n a) 3 n b) 1 1 (nI (n + 1))) 85 11 = nI n := by rw [wr_ne (by decide), wr_ne (by decide), wr_ne (by decide)]; exact n3
        refine ⟨nI (n + 1), _, wr (wr (wr (wr (wr (wr M 2 n a) 3 n b) 1 1 (nI (n + 1))) 90 n a) 91 n b) 85 11 (nI (n + 1)), rfl, ?_, ?_⟩
        · rw [if_neg (nn g1), if_neg (nn g2), q3, if_neg (by rw [show (8 : Int32) = nI 8 from rfl, n_eq (by omega) (by omega)]; omega), if_pos (ib_nI (by omega) (by omega)), ix_nI (by omega), wr_ne (show 85 ≠ 90 by decide), q3, if_pos (ib_nI (by omega) (by omega)), ix_nI (by omega), wr_ne (show 85 ≠ 91 by decide), wr_ne (show 85 ≠ 90 by decide), q3, nI_1, wr_same]
        · refine ⟨((((((h1.put (by omega)).put (by omega)).put (by omega)).put (by omega)).put (by omega)).put (by omega)), ⟨n + 1, by omega, ?_, ?_, fun i hi => ?_⟩, ((((((h3.put (by omega)).put (by omega)).put (by omega)).put (by omega)).put (by omega)).put (by omega)), ((((((h4.put (by omega)).put (by omega)).put (by omega)).put (by omega)).put (by omega)).put (by omega)), ((((((h5.put (by omega)).put (by omega)).put (by omega)).put (by omega)).put (by omega)).put (by omega)), ((((((h6.put (by omega)).put (by omega)).put (by omega)).put (by omega)).put (by omega)).put (by omega)), ((((((h7.put (by omega)).put (by omega)).put (by omega)).put (by omega)).put (by omega)).put (by omega)), ((((((h8.put (by omega)).put (by omega)).put (by omega)).put (by omega)).put (by omega)).put (by omega)), ((((((h9.put (by omega)).put (by omega)).put (by omega)).put (by omega)).put (by omega)).put (by omega))⟩
          · simp [wr]
          · simp [wr]
          · by_cases hin : i = n
            · subst hin
              simp [wr]
              exact ⟨g1, g2⟩
            · simp [wr, hin]
              exact n4 i (by omega)
    · refine ⟨-2, M, M, ?_, ?_, hR⟩
      · by_cases g4 : b.toInt < 1
        · rw [if_pos (by rw [i_lt, t1]; exact g4)]
        · rw [if_neg (by rw [i_lt, t1]; exact g4), if_neg (by rw [i_le, t50]; omega)]
      · rw [if_neg (nn g1), if_pos g2]
  · exact ⟨-2, M, M, by rw [if_pos g1], by rw [if_pos g1], hR⟩
end
section
/-! 43: maids, lists -/
theorem hR_intro {M : Mem} (h1 : RS M) (h2 : RTY M) (h3 : RW M) (h4 : RM M) (h5 : RX M) (h6 : RP M) (h7 : RH M) (h8 : RK M) (h9 : RA M) : Rel M := ⟨h1, h2, h3, h4, h5, h6, h7, h8, h9⟩
def mOK (a b c : Int32) : Prop := ib a 6 ∧ ib b 10 ∧ ib c 8
def mcC (m : Nat) (a b c : Int32) (M : Mem) : Mem := wr (wr (wr (wr (wr M (6 + 2 * m) 0 a) (6 + 2 * m) 1 b) (6 + 2 * m) 2 c) (6 + 2 * m) 3 0) 1 2 (nI (m + 1))
def mcM (m : Nat) (a b c : Int32) (M : Mem) : Mem := wr (wr (wr (wr (wr M 92 m a) 93 m b) 94 m c) 96 m 0) 85 17 (nI (m + 1))
theorem fN_maid_ok {m : Nat} {a b c : Int32} {M : Mem} (h : mOK a b c) (hm : m < 4) (e : M 1 2 = nI m) : fN_maid a b c M = some (nI m, mcC m a b c M) := by
  unfold fN_maid fA_arrive
  simp only [fN_w6, fN_w8, fN_w10, Option.bind_some, bz_0]
  rw [if_neg (nn h.1), if_neg (nn h.2.1), if_neg (nn h.2.2), e, if_pos (by rw [show (4 : Int32) = nI 4 from rfl, n_lt (by omega) (by omega)]; omega), if_pos (ib_nI (by omega) (by omega)), ix_nI (by omega)]
  rw [wr_ne (show 1 ≠ 6 + 2 * m by omega), wr_ne (show 1 ≠ 6 + 2 * m by omega), wr_ne (show 1 ≠ 6 + 2 * m by omega), wr_ne (show 1 ≠ 6 + 2 * m by omega), e, nI_1, wr_same, nI_pd (by omega), Nat.add_sub_cancel]
  rfl
theorem fN_maid_full {a b c : Int32} {M : Mem} (h : mOK a b c) (e : M 1 2 = nI 4) : fN_maid a b c M = some (-4, M) := by
  unfold fN_maid
  simp only [fN_w6, fN_w8, fN_w10, Option.bind_some, bz_0]
  rw [if_neg (nn h.1), if_neg (nn h.2.1), if_neg (nn h.2.2), e, if_neg (by decide)]
theorem fN_maid_bad {a b c : Int32} {M : Mem} (h : ¬ mOK a b c) : fN_maid a b c M = some (-2, M) := by
  unfold fN_maid
  simp only [fN_w6, fN_w8, fN_w10, Option.bind_some, bz_0]
  by_cases h1 : ib a 6
  · rw [if_neg (nn h1)]
    by_cases h2 : ib b 10
    · rw [if_neg (nn h2), if_pos (fun h3 => h ⟨h1, h2, h3⟩)]
    · rw [if_pos h2]
  · rw [if_pos h1]
theorem fM_maid_ok {m : Nat} {a b c : Int32} {M : Mem} (h : mOK a b c) (hm : m < 4) (e : M 85 17 = nI m) : fM_maid a b c M = some (nI m, mcM m a b c M) := by
  unfold fM_maid
  simp only [fM_i6, fM_r8, fM_i10, Option.bind_some, bz_0]
  have g4 : ib (nI m) 4 := ib_nI hm (by omega)
  have w85 : ∀ (N : Mem) (k j : Nat) (x : Int32), k ≠ 85 → wr N k j x 85 = N 85 := fun N k j x hk => wr_ne hk.symm
  rw [if_neg (nn h.1), if_neg (nn h.2.1), if_neg (nn h.2.2)]
  simp only [w85 _ 92 _ _ (by decide), w85 _ 93 _ _ (by decide), w85 _ 94 _ _ (by decide), w85 _ 96 _ _ (by decide), e]
  rw [if_neg (by rw [show (4 : Int32) = nI 4 from rfl, n_eq (by omega) (by omega)]; omega), if_pos g4, if_pos g4, if_pos g4, if_pos g4, ix_nI (by omega), nI_1, wr_same, nI_pd (by omega), Nat.add_sub_cancel]
  rfl
theorem fM_maid_full {a b c : Int32} {M : Mem} (h : mOK a b c) (e : M 85 17 = nI 4) : fM_maid a b c M = some (-4, M) := by
  unfold fM_maid
  simp only [fM_i6, fM_r8, fM_i10, Option.bind_some, bz_0]
  rw [if_neg (nn h.1), if_neg (nn h.2.1), if_neg (nn h.2.2), e, if_pos (by decide)]
theorem fM_maid_bad {a b c : Int32} {M : Mem} (h : ¬ mOK a b c) : fM_maid a b c M = some (-2, M) := by
  unfold fM_maid
  simp only [fM_i6, fM_r8, fM_i10, Option.bind_some, bz_0]
  by_cases h1 : ib a 6
  · rw [if_neg (nn h1)]
    by_cases h2 : ib b 10
    · rw [if_neg (nn h2), if_pos (fun h3 => h ⟨h1, h2, h3⟩)]
    · rw [if_pos h2]
  · rw [if_pos h1]
theorem MD.at {M N : Mem} {k : Nat} (h : MD M k) (a : N (6 + 2 * k) = M (6 + 2 * k)) (b : N (7 + 2 * k) = M (7 + 2 * k)) (c : N 92 k = M 92 k) (d : N 93 k = M 93 k) (e : N 94 k = M 94 k) (f : ∀ i, i < 5 → N 95 (5 * k + i) = M 95 (5 * k + i)) (g : N 96 k = M 96 k) : MD N k := by
  unfold MD
  rw [a, b, c, d, e, g]
  obtain ⟨h1, h2, h3, l, h4, h5, h6, h7⟩ := h
  exact ⟨h1, h2, h3, l, h4, h5, h6, fun i hi => ⟨(h7 i hi).1, (f i (by omega)).trans (h7 i hi).2⟩⟩
theorem Rel.maid {m : Nat} {a b c : Int32} {M : Mem} (hR : Rel M) (h : mOK a b c) (hm : m < 4) (e : M 1 2 = nI m) : Rel (mcM m a b c (mcC m a b c M)) := by
  obtain ⟨h1, h2, h3, ⟨m', m1, m2, m3, m4⟩, h5, h6, h7, h8, h9⟩ := hR
  have : m' = m := by rw [m2, n_eq (by omega) (by omega)] at e; exact e
  subst this
  have c85 : ∀ j, j ≠ 17 → mcM m' a b c (mcC m' a b c M) 85 j = M 85 j := fun j hj => by
    unfold mcM mcC
    rw [wr_at hj, wr_ne (by omega), wr_ne (by omega), wr_ne (by omega), wr_ne (by omega), wr_ne (by omega), wr_ne (by omega), wr_ne (by omega), wr_ne (by omega), wr_ne (by omega)]
  have cc : ∀ x, x ≠ 85 → (x < 92 ∨ 94 < x) → x ≠ 96 → x ≠ 1 → x ≠ 6 + 2 * m' → mcM m' a b c (mcC m' a b c M) x = M x := fun x q1 q2 q3 q4 q5 => by
    unfold mcM mcC
    rw [wr_ne (by omega), wr_ne (by omega), wr_ne (by omega), wr_ne (by omega), wr_ne (by omega), wr_ne (by omega), wr_ne (by omega), wr_ne (by omega), wr_ne (by omega), wr_ne (by omega)]
  have c1 : ∀ j, j ≠ 2 → mcM m' a b c (mcC m' a b c M) 1 j = M 1 j := fun j hj => by
    unfold mcM mcC
    rw [wr_ne (by omega), wr_ne (by omega), wr_ne (by omega), wr_ne (by omega), wr_ne (by omega), wr_at hj, wr_ne (by omega), wr_ne (by omega), wr_ne (by omega), wr_ne (by omega)]
  have c92 : mcM m' a b c (mcC m' a b c M) 92 = stS (M 92) m' a := by
    unfold mcM mcC
    rw [wr_ne (by omega), wr_ne (by omega), wr_ne (by omega), wr_ne (by omega), wr_stS, wr_ne (by omega), wr_ne (by omega), wr_ne (by omega), wr_ne (by omega), wr_ne (by omega)]
  have c93 : mcM m' a b c (mcC m' a b c M) 93 = stS (M 93) m' b := by
    unfold mcM mcC
    rw [wr_ne (by omega), wr_ne (by omega), wr_ne (by omega), wr_stS, wr_ne (by omega), wr_ne (by omega), wr_ne (by omega), wr_ne (by omega), wr_ne (by omega), wr_ne (by omega)]
  have c94 : mcM m' a b c (mcC m' a b c M) 94 = stS (M 94) m' c := by
    unfold mcM mcC
    rw [wr_ne (by omega), wr_ne (by omega), wr_stS, wr_ne (by omega), wr_ne (by omega), wr_ne (by omega), wr_ne (by omega), wr_ne (by omega), wr_ne (by omega), wr_ne (by omega)]
  have c96 : mcM m' a b c (mcC m' a b c M) 96 = stS (M 96) m' 0 := by
    unfold mcM mcC
    rw [wr_ne (by omega), wr_stS, wr_ne (by omega), wr_ne (by omega), wr_ne (by omega), wr_ne (by omega), wr_ne (by omega), wr_ne (by omega), wr_ne (by omega), wr_ne (by omega)]
  have c12 : mcM m' a b c (mcC m' a b c M) 1 2 = nI (m' + 1) := by
    unfold mcM mcC
    rw [wr_ne (by omega), wr_ne (by omega), wr_ne (by omega), wr_ne (by omega), wr_ne (by omega), wr_same]
  have c17 : mcM m' a b c (mcC m' a b c M) 85 17 = nI (m' + 1) := by
    unfold mcM
    rw [wr_same]
  have c6 : ∀ j, mcM m' a b c (mcC m' a b c M) (6 + 2 * m') j = if j = 3 then 0 else if j = 2 then c else if j = 1 then b else if j = 0 then a else M (6 + 2 * m') j := fun j => by
    unfold mcM mcC
    rw [wr_ne (by omega), wr_ne (by omega), wr_ne (by omega), wr_ne (by omega), wr_ne (by omega), wr_ne (by omega), wr_stS, wr_stS, wr_stS, wr_stS]
    rfl
  generalize mcM m' a b c (mcC m' a b c M) = N at *
  refine hR_intro (h1.same (c1 0 (by omega)) (c85 7 (by omega))) (h2.same (c1 1 (by omega)) (c85 11 (by omega)) (cc 2 (by omega) (by omega) (by omega) (by omega) (by omega)) (cc 3 (by omega) (by omega) (by omega) (by omega) (by omega)) (cc 90 (by omega) (by omega) (by omega) (by omega) (by omega)) (cc 91 (by omega) (by omega) (by omega) (by omega) (by omega))) (h3.same (cc 4 (by omega) (by omega) (by omega) (by omega) (by omega)) (cc 89 (by omega) (by omega) (by omega) (by omega) (by omega))) ⟨m' + 1, by omega, c12, c17, fun k hk => ?_⟩ (h5.same (by rw [cc 0 (by omega) (by omega) (by omega) (by omega) (by omega)]) (c85 3 (by omega)) (c1 3 (by omega)) (c85 4 (by omega)) (fun x q1 q2 => cc x (by omega) (by omega) (by omega) (by omega) (by omega)) (cc 86 (by omega) (by omega) (by omega) (by omega) (by omega)) (cc 87 (by omega) (by omega) (by omega) (by omega) (by omega))) (h6.same (by rw [cc 40 (by omega) (by omega) (by omega) (by omega) (by omega)]) (c85 6 (by omega)) (cc 41 (by omega) (by omega) (by omega) (by omega) (by omega)) (cc 88 (by omega) (by omega) (by omega) (by omega) (by omega))) (h7.same (fun x q1 q2 => cc x (by omega) (by omega) (by omega) (by omega) (by omega)) (cc 109 (by omega) (by omega) (by omega) (by omega) (by omega)) (cc 110 (by omega) (by omega) (by omega) (by omega) (by omega)) (cc 111 (by omega) (by omega) (by omega) (by omega) (by omega)) (cc 112 (by omega) (by omega) (by omega) (by omega) (by omega))) (h8.same (by rw [cc 0 (by omega) (by omega) (by omega) (by omega) (by omega)]) (fun x q1 q2 => cc x (by omega) (by omega) (by omega) (by omega) (by omega)) (fun j q1 q2 => c85 j (by omega)) (cc 107 (by omega) (by omega) (by omega) (by omega) (by omega)) (cc 108 (by omega) (by omega) (by omega) (by omega) (by omega)) (fun k q1 q2 => ?_) ?_ ?_) (h9.same (c85 18 (by omega)) (h9.2.same (by rw [cc 46 (by omega) (by omega) (by omega) (by omega) (by omega)]) (cc 47 (by omega) (by omega) (by omega) (by omega) (by omega))))
  · by_cases hkm : k = m'
    · subst hkm
      unfold MD
      rw [c6, c6, c6, c6, c92, c93, c94, c96, if_neg (by decide), if_neg (by decide), if_neg (by decide), if_pos rfl, if_neg (by decide), if_neg (by decide), if_pos rfl, if_neg (by decide), if_pos rfl, if_pos rfl]
      unfold stS
      rw [if_pos rfl, if_pos rfl, if_pos rfl, if_pos rfl]
      exact ⟨⟨h.1, rfl⟩, ⟨h.2.1, rfl⟩, ⟨h.2.2, rfl⟩, 0, by omega, rfl, rfl, fun i hi => absurd hi (by omega)⟩
    · refine (m4 k (by omega)).at (cc _ (by omega) (by omega) (by omega) (by omega) (by omega)) (cc _ (by omega) (by omega) (by omega) (by omega) (by omega)) (by rw [c92, stS, if_neg hkm]) (by rw [c93, stS, if_neg hkm]) (by rw [c94, stS, if_neg hkm]) (fun i _ => by rw [cc 95 (by omega) (by omega) (by omega) (by omega) (by omega)]) (by rw [c96, stS, if_neg hkm])
  · rw [m2, ix_nI (by omega)] at q1
    rw [c92, stS, if_neg (by omega)]
  · rw [m2, c12, ix_nI (by omega), ix_nI (by omega)]; omega
  · rw [cc 0 (by omega) (by omega) (by omega) (by omega) (by omega)]; exact Nat.le_refl _
theorem op_maid (a b c : Int32) : Op (fN_maid a b c) (fM_maid a b c) := by
  intro M hR
  obtain ⟨m, m1, m2, m3, m4⟩ := hR.2.2.2.1
  by_cases h : mOK a b c
  · by_cases h4 : m = 4
    · subst h4
      exact ⟨-4, M, M, fN_maid_full h m2, fM_maid_full h m3, hR⟩
    · refine ⟨nI m, _, _, fN_maid_ok h (by omega) m2, fM_maid_ok h (by omega) ?_, hR.maid h (by omega) m2⟩
      unfold mcC
      rw [wr_ne (by omega), wr_ne (by omega), wr_ne (by omega), wr_ne (by omega), wr_ne (by omega)]
      exact m3
  · exact ⟨-2, M, M, fN_maid_bad h, fM_maid_bad h, hR⟩
theorem op_list (a b : Int32) : Op (fN_list a b) (fM_list a b) := by
  intro M hR
  obtain ⟨h1, h2, h3, ⟨m, m1, m2, m3, m4⟩, h5, h6, h7, h8, h9⟩ := hR
  have hR := hR_intro h1 h2 h3 ⟨m, m1, m2, m3, m4⟩ h5 h6 h7 h8 h9
  unfold fN_list fM_list
  simp only [m2, fN_w _ m _ (show m < 2147483648 by omega), fN_w8, Option.bind_some, bz_0]
  by_cases g1 : ib a m
  · rw [if_neg (nn g1)]
    have g4 : ib a 4 := ib_mono g1 m1
    by_cases g2 : ib b 8
    · rw [if_neg (nn g2), if_pos g4]
      have ea := of_ib g1
      obtain ⟨k, hk⟩ : ∃ k, k = ix a := ⟨_, rfl⟩
      rw [← hk]
      obtain ⟨d1, d2, d3, l, l1, l2, l3, l4⟩ := m4 k (by omega)
      rw [l2]
      by_cases h55 : l = 5
      · subst h55
        refine ⟨-4, M, M, by rw [if_neg (by decide)], ?_, hR⟩
        rw [fM_mm a M m1 m3]
        simp only [Option.bind_some, bz_0, fM_r8]
        rw [if_neg (nn g1), if_neg (nn g2), if_pos g4, l3, if_pos (by decide)]
      · rw [if_pos (by rw [show (5 : Int32) = nI 5 from rfl, n_lt (by omega) (by omega)]; omega), if_pos (ib_nI (by omega) (by omega)), ix_nI (by omega), wr_ne (show 6 + 2 * k ≠ 6 + 2 * k + 1 by omega), l2, nI_1, wr_same]
        generalize hC : wr (wr M (6 + 2 * k + 1) l b) (6 + 2 * k) 3 (nI (l + 1)) = C
        have cC : ∀ x, x ≠ 6 + 2 * k → x ≠ 7 + 2 * k → C x = M x := fun x q1 q2 => by rw [← hC, wr_ne q1, wr_ne (by omega)]
        refine ⟨nI (l + 1), C, wr (wr C 95 (5 * k + l) b) 96 k (nI (l + 1)), rfl, ?_, ?_⟩
        · rw [fM_mm a C m1 (by rw [cC 85 (by omega) (by omega)]; exact m3)]
          simp only [Option.bind_some, bz_0, fM_r8]
          rw [if_neg (nn g1), if_neg (nn g2), if_pos g4, if_pos g4, if_pos g4, if_pos g4, if_pos g4, cC 96 (by omega) (by omega), l3, if_neg (by rw [show (5 : Int32) = nI 5 from rfl, n_eq (by omega) (by omega)]; exact h55)]
          have e5 : (5 : Int32) * a + nI l = nI (5 * k + l) := by rw [ea.1, ← hk, show (5 : Int32) = nI 5 from rfl, pk_mul, nI_add]
          rw [e5, if_pos (ib_nI (by omega) (by omega)), ix_nI (by omega), wr_ne (show 96 ≠ 95 by decide), cC 96 (by omega) (by omega), l3, nI_1, wr_same]
        · have cN : ∀ x, x ≠ 6 + 2 * k → x ≠ 7 + 2 * k → x ≠ 95 → x ≠ 96 → wr (wr C 95 (5 * k + l) b) 96 k (nI (l + 1)) x = M x := fun x q1 q2 q3 q4 => by rw [wr_ne q4, wr_ne q3, cC x q1 q2]
          have c95 : wr (wr C 95 (5 * k + l) b) 96 k (nI (l + 1)) 95 = stS (M 95) (5 * k + l) b := by rw [wr_ne (by decide), wr_stS, cC 95 (by omega) (by omega)]
          have c96 : wr (wr C 95 (5 * k + l) b) 96 k (nI (l + 1)) 96 = stS (M 96) k (nI (l + 1)) := by rw [wr_stS, wr_ne (by decide), cC 96 (by omega) (by omega)]
          have c6 : wr (wr C 95 (5 * k + l) b) 96 k (nI (l + 1)) (6 + 2 * k) = stS (M (6 + 2 * k)) 3 (nI (l + 1)) := by rw [wr_ne (by omega), wr_ne (by omega), ← hC, wr_stS, wr_ne (by omega)]
          have c7 : wr (wr C 95 (5 * k + l) b) 96 k (nI (l + 1)) (7 + 2 * k) = stS (M (7 + 2 * k)) l b := by rw [wr_ne (by omega), wr_ne (by omega), ← hC, wr_ne (by omega), show 6 + 2 * k + 1 = 7 + 2 * k by omega, wr_stS]
          generalize wr (wr C 95 (5 * k + l) b) 96 k (nI (l + 1)) = N at *
          have s0 : ∀ x, (x < 6 ∨ 14 ≤ x) → x ≠ 95 → x ≠ 96 → N x = M x := fun x q1 q2 q3 => cN x (by omega) (by omega) q2 q3
          refine hR_intro (h1.same (by rw [s0 1 (by omega) (by omega) (by omega)]) (by rw [s0 85 (by omega) (by omega) (by omega)])) (h2.same (by rw [s0 1 (by omega) (by omega) (by omega)]) (by rw [s0 85 (by omega) (by omega) (by omega)]) (s0 2 (by omega) (by omega) (by omega)) (s0 3 (by omega) (by omega) (by omega)) (s0 90 (by omega) (by omega) (by omega)) (s0 91 (by omega) (by omega) (by omega))) (h3.same (s0 4 (by omega) (by omega) (by omega)) (s0 89 (by omega) (by omega) (by omega))) ⟨m, m1, by rw [s0 1 (by omega) (by omega) (by omega)]; exact m2, by rw [s0 85 (by omega) (by omega) (by omega)]; exact m3, fun q hq => ?_⟩ (h5.same (by rw [s0 0 (by omega) (by omega) (by omega)]) (by rw [s0 85 (by omega) (by omega) (by omega)]) (by rw [s0 1 (by omega) (by omega) (by omega)]) (by rw [s0 85 (by omega) (by omega) (by omega)]) (fun x q1 q2 => s0 x (by omega) (by omega) (by omega)) (s0 86 (by omega) (by omega) (by omega)) (s0 87 (by omega) (by omega) (by omega))) (h6.same (by rw [s0 40 (by omega) (by omega) (by omega)]) (by rw [s0 85 (by omega) (by omega) (by omega)]) (s0 41 (by omega) (by omega) (by omega)) (s0 88 (by omega) (by omega) (by omega))) (h7.same (fun x q1 q2 => s0 x (by omega) (by omega) (by omega)) (s0 109 (by omega) (by omega) (by omega)) (s0 110 (by omega) (by omega) (by omega)) (s0 111 (by omega) (by omega) (by omega)) (s0 112 (by omega) (by omega) (by omega))) (h8.same (by rw [s0 0 (by omega) (by omega) (by omega)]) (fun x q1 q2 => s0 x (by omega) (by omega) (by omega)) (fun j q1 q2 => by rw [s0 85 (by omega) (by omega) (by omega)]) (s0 107 (by omega) (by omega) (by omega)) (s0 108 (by omega) (by omega) (by omega)) (fun k q1 q2 => by rw [s0 92 (by omega) (by omega) (by omega)]) (by rw [s0 1 (by omega) (by omega) (by omega)]; exact Nat.le_refl _) (by rw [s0 0 (by omega) (by omega) (by omega)]; exact Nat.le_refl _)) (h9.same (by rw [s0 85 (by omega) (by omega) (by omega)]) (h9.2.same (by rw [s0 46 (by omega) (by omega) (by omega)]) (s0 47 (by omega) (by omega) (by omega))))
          by_cases hqk : q = k
          · subst hqk
            refine ⟨?_, ?_, ?_, l + 1, by omega, ?_, ?_, fun i hi => ?_⟩
            · rw [c6, s0 92 (by omega) (by omega) (by omega), stS, if_neg (by decide)]; exact d1
            · rw [c6, s0 93 (by omega) (by omega) (by omega), stS, if_neg (by decide)]; exact d2
            · rw [c6, s0 94 (by omega) (by omega) (by omega), stS, if_neg (by decide)]; exact d3
            · rw [c6, stS, if_pos rfl]
            · rw [c96, stS, if_pos rfl]
            · rw [c7, c95]
              unfold stS
              by_cases hil : i = l
              · subst hil
                rw [if_pos rfl, if_pos rfl]; exact ⟨g2, rfl⟩
              · rw [if_neg hil, if_neg (by omega)]; exact l4 i (by omega)
          · refine (m4 q hq).at (cN _ (by omega) (by omega) (by omega) (by omega)) (cN _ (by omega) (by omega) (by omega) (by omega)) (by rw [s0 92 (by omega) (by omega) (by omega)]) (by rw [s0 93 (by omega) (by omega) (by omega)]) (by rw [s0 94 (by omega) (by omega) (by omega)]) (fun i hi => ?_) (by rw [c96, stS, if_neg hqk])
            rw [c95, stS, if_neg (by omega)]
    · refine ⟨-2, M, M, by rw [if_pos g2], ?_, hR⟩
      rw [fM_mm a M m1 m3]
      simp only [Option.bind_some, bz_0, fM_r8]
      rw [if_neg (nn g1), if_pos g2]
  · refine ⟨-2, M, M, by rw [if_pos g1], ?_, hR⟩
    rw [fM_mm a M m1 m3]
    simp only [Option.bind_some, bz_0]
    rw [if_pos g1]
theorem op_clear (a : Int32) : Op (fN_clear a) (fM_clear a) := by
  intro M hR
  obtain ⟨h1, h2, h3, ⟨m, m1, m2, m3, m4⟩, h5, h6, h7, h8, h9⟩ := hR
  have hR := hR_intro h1 h2 h3 ⟨m, m1, m2, m3, m4⟩ h5 h6 h7 h8 h9
  unfold fN_clear fM_clear
  simp only [m2, fN_w _ m _ (show m < 2147483648 by omega), Option.bind_some, bz_0]
  by_cases g1 : ib a m
  · rw [if_neg (nn g1)]
    have g4 : ib a 4 := ib_mono g1 m1
    have ea := of_ib g1
    obtain ⟨k, hk⟩ : ∃ k, k = ix a := ⟨_, rfl⟩
    rw [if_pos g4, if_pos g4, ← hk]
    obtain ⟨d1, d2, d3, l, l1, l2, l3, l4⟩ := m4 k (by omega)
    refine ⟨M (6 + 2 * k) 3, wr M (6 + 2 * k) 3 0, wr (wr M (6 + 2 * k) 3 0) 96 k 0, rfl, ?_, ?_⟩
    · rw [fM_mm a _ m1 (by rw [wr_ne (by omega)]; exact m3)]
      simp only [Option.bind_some, bz_0]
      rw [if_neg (nn g1), if_pos g4, if_pos g4, wr_ne (show 96 ≠ 6 + 2 * k by omega), l3, l2]
    · have cN : ∀ x, x ≠ 6 + 2 * k → x ≠ 96 → wr (wr M (6 + 2 * k) 3 0) 96 k 0 x = M x := fun x q1 q4 => by rw [wr_ne q4, wr_ne q1]
      have c96 : wr (wr M (6 + 2 * k) 3 0) 96 k 0 96 = stS (M 96) k 0 := by rw [wr_stS, wr_ne (by omega)]
      have c6 : wr (wr M (6 + 2 * k) 3 0) 96 k 0 (6 + 2 * k) = stS (M (6 + 2 * k)) 3 0 := by rw [wr_ne (by omega), wr_stS]
      refine hR_intro ((h1.put (by omega)).put (by omega)) ((h2.put (by omega)).put (by omega)) ((h3.put (by omega)).put (by omega)) ⟨m, m1, by rw [cN 1 (by omega) (by omega)]; exact m2, by rw [cN 85 (by omega) (by omega)]; exact m3, fun q hq => ?_⟩ ((h5.put (by omega)).put (by omega)) ((h6.put (by omega)).put (by omega)) ((h7.put (by omega)).put (by omega)) ((h8.put (by omega)).put (by omega)) ((h9.put (by omega)).put (by omega))
      by_cases hqk : q = k
      · subst hqk
        refine ⟨?_, ?_, ?_, 0, by omega, ?_, ?_, fun i hi => absurd hi (by omega)⟩
        · rw [c6, cN 92 (by omega) (by omega), stS, if_neg (by decide)]; exact d1
        · rw [c6, cN 93 (by omega) (by omega), stS, if_neg (by decide)]; exact d2
        · rw [c6, cN 94 (by omega) (by omega), stS, if_neg (by decide)]; exact d3
        · rw [c6, stS, if_pos rfl]; rfl
        · rw [c96, stS, if_pos rfl]; rfl
      · exact (m4 q hq).at (cN _ (by omega) (by omega)) (cN _ (by omega) (by omega)) (by rw [cN 92 (by omega) (by omega)]) (by rw [cN 93 (by omega) (by omega)]) (by rw [cN 94 (by omega) (by omega)]) (fun i hi => by rw [cN 95 (by omega) (by omega)]) (by rw [c96, stS, if_neg hqk])
  · refine ⟨-2, M, M, by rw [if_pos g1], ?_, hR⟩
    rw [fM_mm a M m1 m3]
    simp only [Option.bind_some, bz_0]
    rw [if_pos g1]
end
section
/-! 44: told, set -/
theorem ib_ex {a : Int32} {m : Nat} (h : ib a m) : ∃ k, k < m ∧ a = nI k := ⟨ix a, ix_lt h, (of_ib h).1⟩
theorem sub_ib {w : Int32} {c N : Nat} (hc : c + N < 2147483648) : ib (w - nI c) N ↔ (c : Int) ≤ w.toInt ∧ w.toInt < (c : Int) + N := by
  have ec : (nI c).toInt = c := nI_t (by omega)
  constructor
  · intro h
    have h1 := h.1
    have h2 := h.2
    have e : w = (w - nI c) + nI c := (Int32.sub_add_cancel w (nI c)).symm
    have : w.toInt = (w - nI c).toInt + c := by
      rw [← ec, ← t_add (by omega) (by omega), ← e]
    omega
  · intro h
    have : (w - nI c).toInt = w.toInt - c := by rw [t_sub (by omega) (by omega), ec]
    unfold ib
    omega
theorem toldN_1 {M : Mem} (a : Int32) : fN_told a 1 M = some (if ib a 8 then M 4 (ix a) else -2, M) := by
  unfold fN_told
  rw [if_neg (by decide), if_pos rfl]
  simp only [fN_w8, Option.bind_some, bz_0]
  by_cases g : ib a 8
  · rw [if_neg (nn g), if_pos g, if_pos (ib_mono g (by omega))]
  · rw [if_pos g, if_neg g]
theorem isOf_1 {M : Mem} (a : Int32) : fM_isOf 1 a M = some (bz (ib a 8), M) := by
  unfold fM_isOf fM_isOf_b43
  rw [if_neg (by decide), if_pos rfl]
  simp only [fM_r8, Option.bind_some, bz_0]
  by_cases g : ib a 8
  · rw [if_neg (nn g), bz, if_pos g]
  · rw [if_pos g, bz, if_neg g]
theorem toldM_1 {M : Mem} (a : Int32) : fM_told a 1 M = some (if ib a 8 then M 89 (ix a) else -2, M) := by
  unfold fM_told
  rw [show fM_in ((1 : Int32).toInt64) (0 : Int64) (7 : Int64) M = some (1, M) from rfl]
  simp only [Option.bind_some]
  unfold fM_told_b26
  rw [if_neg (by decide), isOf_1 a]
  simp only [Option.bind_some, bz_0]
  by_cases g : ib a 8
  · rw [if_neg (nn g), if_pos g, if_neg (by decide), if_neg (by decide), if_pos trivial, if_pos (ib_mono g (by omega))]
  · rw [if_pos g, if_neg g]
theorem toldN_2 {M : Mem} {n : Nat} (hn : n ≤ 8) (en : M 1 1 = nI n) (a : Int32) : fN_told a 2 M = some (if ib a n then M 2 (ix a) else -2, M) := by
  unfold fN_told
  rw [if_neg (by decide), if_neg (by decide), if_pos rfl]
  simp only [en, fN_w _ n _ (show n < 2147483648 by omega), Option.bind_some, bz_0]
  by_cases g : ib a n
  · rw [if_neg (nn g), if_pos g, if_pos (ib_mono g (by omega))]
  · rw [if_pos g, if_neg g]
theorem isOf_2 {M : Mem} {n : Nat} (hn : n ≤ 8) (en : M 85 11 = nI n) (a : Int32) : fM_isOf 2 a M = some (bz (ib a n), M) := by
  unfold fM_isOf fM_isOf_b43
  rw [if_neg (by decide), if_neg (by decide), if_neg (by decide)]
  simp only [fM_ss _ _ hn en, Option.bind_some, bz_0]
  by_cases g : ib a n
  · rw [if_neg (nn g), bz, if_pos g]
  · rw [if_pos g, bz, if_neg g]
theorem toldM_2 {M : Mem} {n : Nat} (hn : n ≤ 8) (en : M 85 11 = nI n) (a : Int32) : fM_told a 2 M = some (if ib a n then M 90 (ix a) else -2, M) := by
  unfold fM_told
  rw [show fM_in ((2 : Int32).toInt64) (0 : Int64) (7 : Int64) M = some (1, M) from rfl]
  simp only [Option.bind_some]
  unfold fM_told_b26
  rw [if_neg (by decide), isOf_2 hn en a]
  simp only [Option.bind_some, bz_0]
  by_cases g : ib a n
  · rw [if_neg (nn g), if_pos g, if_neg (by decide), if_neg (by decide), if_neg (by decide), if_pos trivial, if_pos (ib_mono g (by omega))]
  · rw [if_pos g, if_neg g]
theorem toldN_3 {M : Mem} {n : Nat} (hn : n ≤ 8) (en : M 1 1 = nI n) (a : Int32) : fN_told a 3 M = some (if ib a n then M 3 (ix a) else -2, M) := by
  unfold fN_told
  rw [if_neg (by decide), if_neg (by decide), if_neg (by decide), if_pos rfl]
  simp only [en, fN_w _ n _ (show n < 2147483648 by omega), Option.bind_some, bz_0]
  by_cases g : ib a n
  · rw [if_neg (nn g), if_pos g, if_pos (ib_mono g (by omega))]
  · rw [if_pos g, if_neg g]
theorem isOf_3 {M : Mem} {n : Nat} (hn : n ≤ 8) (en : M 85 11 = nI n) (a : Int32) : fM_isOf 3 a M = some (bz (ib a n), M) := by
  unfold fM_isOf fM_isOf_b43
  rw [if_neg (by decide), if_neg (by decide), if_neg (by decide)]
  simp only [fM_ss _ _ hn en, Option.bind_some, bz_0]
  by_cases g : ib a n
  · rw [if_neg (nn g), bz, if_pos g]
  · rw [if_pos g, bz, if_neg g]
theorem toldM_3 {M : Mem} {n : Nat} (hn : n ≤ 8) (en : M 85 11 = nI n) (a : Int32) : fM_told a 3 M = some (if ib a n then M 91 (ix a) else -2, M) := by
  unfold fM_told
  rw [show fM_in ((3 : Int32).toInt64) (0 : Int64) (7 : Int64) M = some (1, M) from rfl]
  simp only [Option.bind_some]
  unfold fM_told_b26
  rw [if_neg (by decide), isOf_3 hn en a]
  simp only [Option.bind_some, bz_0]
  by_cases g : ib a n
  · rw [if_neg (nn g), if_pos g, if_neg (by decide), if_neg (by decide), if_neg (by decide), if_neg (by decide), if_pos (ib_mono g (by omega))]
  · rw [if_pos g, if_neg g]
theorem toldN_4 {M : Mem} {m : Nat} (hm : m ≤ 4) (em : M 1 2 = nI m) (a : Int32) : fN_told a 4 M = some (if ib a m then M (6 + 2 * ix a) 1 else -2, M) := by
  unfold fN_told
  rw [if_neg (by decide), if_neg (by decide), if_neg (by decide), if_neg (by decide), em, fN_w _ m _ (by omega)]
  simp only [Option.bind_some, bz_0]
  by_cases g : ib a m
  · rw [if_neg (nn g), if_pos g, if_pos (ib_mono g (by omega))]
    unfold fN_toldOfMaid
    rw [if_pos rfl]
    rfl
  · rw [if_pos g, if_neg g]
theorem isOf_4 {M : Mem} {m : Nat} (hm : m ≤ 4) (em : M 85 17 = nI m) (a : Int32) : fM_isOf 4 a M = some (bz (ib a m), M) := by
  unfold fM_isOf fM_isOf_b43
  rw [if_neg (by decide), if_neg (by decide), if_pos (by decide)]
  simp only [fM_mm _ _ hm em, Option.bind_some, bz_0]
  by_cases g : ib a m
  · rw [if_neg (nn g), bz, if_pos g]
  · rw [if_pos g, bz, if_neg g]
theorem toldM_4 {M : Mem} {m : Nat} (hm : m ≤ 4) (em : M 85 17 = nI m) (a : Int32) : fM_told a 4 M = some (if ib a m then M 93 (ix a) else -2, M) := by
  unfold fM_told
  rw [show fM_in ((4 : Int32).toInt64) (0 : Int64) (7 : Int64) M = some (1, M) from rfl]
  simp only [Option.bind_some]
  unfold fM_told_b26
  rw [if_neg (by decide), isOf_4 hm em a]
  simp only [Option.bind_some, bz_0]
  by_cases g : ib a m
  · rw [if_neg (nn g), if_pos g, if_pos (by decide), if_neg (by decide), if_pos trivial, if_pos (ib_mono g (by omega))]
  · rw [if_pos g, if_neg g]
theorem toldN_5 {M : Mem} {m : Nat} (hm : m ≤ 4) (em : M 1 2 = nI m) (a : Int32) : fN_told a 5 M = some (if ib a m then M (6 + 2 * ix a) 2 else -2, M) := by
  unfold fN_told
  rw [if_neg (by decide), if_neg (by decide), if_neg (by decide), if_neg (by decide), em, fN_w _ m _ (by omega)]
  simp only [Option.bind_some, bz_0]
  by_cases g : ib a m
  · rw [if_neg (nn g), if_pos g, if_pos (ib_mono g (by omega))]
    unfold fN_toldOfMaid
    rw [if_neg (by decide), if_pos rfl]
    rfl
  · rw [if_pos g, if_neg g]
theorem isOf_5 {M : Mem} {m : Nat} (hm : m ≤ 4) (em : M 85 17 = nI m) (a : Int32) : fM_isOf 5 a M = some (bz (ib a m), M) := by
  unfold fM_isOf fM_isOf_b43
  rw [if_neg (by decide), if_neg (by decide), if_pos (by decide)]
  simp only [fM_mm _ _ hm em, Option.bind_some, bz_0]
  by_cases g : ib a m
  · rw [if_neg (nn g), bz, if_pos g]
  · rw [if_pos g, bz, if_neg g]
theorem toldM_5 {M : Mem} {m : Nat} (hm : m ≤ 4) (em : M 85 17 = nI m) (a : Int32) : fM_told a 5 M = some (if ib a m then M 94 (ix a) else -2, M) := by
  unfold fM_told
  rw [show fM_in ((5 : Int32).toInt64) (0 : Int64) (7 : Int64) M = some (1, M) from rfl]
  simp only [Option.bind_some]
  unfold fM_told_b26
  rw [if_neg (by decide), isOf_5 hm em a]
  simp only [Option.bind_some, bz_0]
  by_cases g : ib a m
  · rw [if_neg (nn g), if_pos g, if_pos (by decide), if_neg (by decide), if_neg (by decide), if_pos trivial, if_pos (ib_mono g (by omega))]
  · rw [if_pos g, if_neg g]
theorem toldN_6 {M : Mem} {m : Nat} (hm : m ≤ 4) (em : M 1 2 = nI m) (a : Int32) : fN_told a 6 M = some (if ib a m then M (6 + 2 * ix a) 0 else -2, M) := by
  unfold fN_told
  rw [if_neg (by decide), if_neg (by decide), if_neg (by decide), if_neg (by decide), em, fN_w _ m _ (by omega)]
  simp only [Option.bind_some, bz_0]
  by_cases g : ib a m
  · rw [if_neg (nn g), if_pos g, if_pos (ib_mono g (by omega))]
    unfold fN_toldOfMaid
    rw [if_neg (by decide), if_neg (by decide), if_pos rfl]
    rfl
  · rw [if_pos g, if_neg g]
theorem isOf_6 {M : Mem} {m : Nat} (hm : m ≤ 4) (em : M 85 17 = nI m) (a : Int32) : fM_isOf 6 a M = some (bz (ib a m), M) := by
  unfold fM_isOf fM_isOf_b43
  rw [if_neg (by decide), if_neg (by decide), if_pos (by decide)]
  simp only [fM_mm _ _ hm em, Option.bind_some, bz_0]
  by_cases g : ib a m
  · rw [if_neg (nn g), bz, if_pos g]
  · rw [if_pos g, bz, if_neg g]
theorem toldM_6 {M : Mem} {m : Nat} (hm : m ≤ 4) (em : M 85 17 = nI m) (a : Int32) : fM_told a 6 M = some (if ib a m then M 92 (ix a) else -2, M) := by
  unfold fM_told
  rw [show fM_in ((6 : Int32).toInt64) (0 : Int64) (7 : Int64) M = some (1, M) from rfl]
  simp only [Option.bind_some]
  unfold fM_told_b26
  rw [if_neg (by decide), isOf_6 hm em a]
  simp only [Option.bind_some, bz_0]
  by_cases g : ib a m
  · rw [if_neg (nn g), if_pos g, if_pos (by decide), if_neg (by decide), if_neg (by decide), if_neg (by decide), if_pos trivial, if_pos (ib_mono g (by omega))]
  · rw [if_pos g, if_neg g]
theorem toldN_7 {M : Mem} {m : Nat} (hm : m ≤ 4) (em : M 1 2 = nI m) (a : Int32) : fN_told a 7 M = some (if ib a m then M (6 + 2 * ix a) 3 else -2, M) := by
  unfold fN_told
  rw [if_neg (by decide), if_neg (by decide), if_neg (by decide), if_neg (by decide), em, fN_w _ m _ (by omega)]
  simp only [Option.bind_some, bz_0]
  by_cases g : ib a m
  · rw [if_neg (nn g), if_pos g, if_pos (ib_mono g (by omega))]
    unfold fN_toldOfMaid
    rw [if_neg (by decide), if_neg (by decide), if_neg (by decide), if_pos rfl]
    rfl
  · rw [if_pos g, if_neg g]
theorem isOf_7 {M : Mem} {m : Nat} (hm : m ≤ 4) (em : M 85 17 = nI m) (a : Int32) : fM_isOf 7 a M = some (bz (ib a m), M) := by
  unfold fM_isOf fM_isOf_b43
  rw [if_neg (by decide), if_neg (by decide), if_pos (by decide)]
  simp only [fM_mm _ _ hm em, Option.bind_some, bz_0]
  by_cases g : ib a m
  · rw [if_neg (nn g), bz, if_pos g]
  · rw [if_pos g, bz, if_neg g]
theorem toldM_7 {M : Mem} {m : Nat} (hm : m ≤ 4) (em : M 85 17 = nI m) (a : Int32) : fM_told a 7 M = some (if ib a m then M 96 (ix a) else -2, M) := by
  unfold fM_told
  rw [show fM_in ((7 : Int32).toInt64) (0 : Int64) (7 : Int64) M = some (1, M) from rfl]
  simp only [Option.bind_some]
  unfold fM_told_b26
  rw [if_neg (by decide), isOf_7 hm em a]
  simp only [Option.bind_some, bz_0]
  by_cases g : ib a m
  · rw [if_neg (nn g), if_pos g, if_pos (by decide), if_neg (by decide), if_neg (by decide), if_neg (by decide), if_neg (by decide), if_pos (ib_mono g (by omega))]
  · rw [if_pos g, if_neg g]
theorem toldN_l {M : Mem} {m : Nat} (hm : m ≤ 4) (em : M 1 2 = nI m) (a w : Int32) (hw : ¬ ib w 8) : fN_told a w M = (if ib a m then (if ib (w - 10) 5 then (fA_roomListed (6 + 2 * ix a) (w - 10) M).bind fun w6 => some (w6.1, w6.2) else some (-2, M)) else some (-2, M)) := by
  have ne : ∀ k : Nat, k < 8 → w ≠ nI k := fun k hk z => hw (by rw [z]; exact ib_nI hk (by omega))
  unfold fN_told
  rw [if_neg (show ¬ w = 0 from ne 0 (by omega)), if_neg (show ¬ w = 1 from ne 1 (by omega)), if_neg (show ¬ w = 2 from ne 2 (by omega)), if_neg (show ¬ w = 3 from ne 3 (by omega)), em, fN_w _ m _ (by omega)]
  simp only [Option.bind_some, bz_0]
  by_cases g : ib a m
  · rw [if_neg (nn g), if_pos g, if_pos (ib_mono g (by omega))]
    unfold fN_toldOfMaid
    rw [if_neg (show ¬ w = 4 from ne 4 (by omega)), if_neg (show ¬ w = 5 from ne 5 (by omega)), if_neg (show ¬ w = 6 from ne 6 (by omega)), if_neg (show ¬ w = 7 from ne 7 (by omega)), fN_w5]
    simp only [Option.bind_some, bz_0]
    by_cases g5 : ib (w - 10) 5
    · rw [if_neg (nn g5), if_pos g5]
      cases fA_roomListed (6 + 2 * ix a) (w - 10) M with
      | none => rfl
      | some q => rfl
    · rw [if_pos g5, if_neg g5]
      rfl
  · rw [if_pos g, if_neg g]
theorem toldM_l {M : Mem} {m : Nat} (hm : m ≤ 4) (em : M 85 17 = nI m) (a w : Int32) (hw : ¬ ib w 8) (h96 : ∀ k, k < m → ∃ l, l ≤ 5 ∧ M 96 k = nI l) : fM_told a w M = (if ib a m then (if ib (w - 10) 5 then some (if (w - 10).toInt < (M 96 (ix a)).toInt then M 95 (5 * ix a + ix (w - 10)) else -1, M) else some (-2, M)) else some (-2, M)) := by
  have ne : ∀ k : Nat, k < 8 → w ≠ nI k := fun k hk z => hw (by rw [z]; exact ib_nI hk (by omega))
  have h5 : ib (w - 10) 5 ↔ 10 ≤ w.toInt ∧ w.toInt ≤ 14 := by
    rw [show (10 : Int32) = nI 10 from rfl, sub_ib (by omega)]; omega
  unfold fM_told
  simp only [fM_i8, Option.bind_some, bz_0]
  rw [if_pos hw, fM_iv w 10 14 10 14 _ rfl rfl]
  simp only [Option.bind_some, bz_0]
  by_cases g5 : ib (w - 10) 5
  · have g5' := h5.mp g5
    rw [if_neg (nn g5')]
    unfold fM_told_b26 fM_isOf fM_isOf_b43
    rw [if_neg (show ¬ w = 0 from ne 0 (by omega)), if_neg (show ¬ w = 1 from ne 1 (by omega)), if_pos (by rw [i_le, show (4 : Int32).toInt = 4 from rfl]; omega), fM_mm _ _ hm em]
    simp only [Option.bind_some, bz_0]
    by_cases g : ib a m
    · obtain ⟨k, hk, rfl⟩ := ib_ex g
      rw [if_neg (nn g), if_pos g, if_pos g5]
      simp only [Option.bind_some]
      rw [if_neg (by decide), if_pos (by rw [i_le, show (4 : Int32).toInt = 4 from rfl]; omega), if_pos (by rw [i_le, show (8 : Int32).toInt = 8 from rfl]; omega), if_pos (ib_mono g (by omega)), ix_nI (by omega)]
      obtain ⟨l, l1, l2⟩ := h96 k hk
      rw [l2, nI_t (by omega)]
      by_cases hl : (w - 10).toInt < l
      · rw [if_neg (by rw [i_le, nI_t (by omega)]; omega), if_pos hl]
        obtain ⟨i, hi, ei⟩ := ib_ex g5
        have e : (5 : Int32) * nI k + w - 10 = nI (5 * k + i) := by
          rw [Int32.sub_eq_add_neg, Int32.add_assoc, ← Int32.sub_eq_add_neg, ei, show (5 : Int32) = nI 5 from rfl, pk_mul, nI_add]
        rw [e, if_pos (ib_nI (by omega) (by omega)), ix_nI (by omega), ei, ix_nI (by omega)]
      · rw [if_pos (by rw [i_le, nI_t (by omega)]; omega), if_neg hl]
    · rw [if_pos g, if_neg g]
      rfl
  · rw [if_pos (fun z => g5 (h5.mpr z))]
    by_cases g : ib a m
    · rw [if_pos g, if_neg g5]
    · rw [if_neg g]
theorem told_both {M : Mem} (hR : Rel M) (a w : Int32) : ∃ v, fN_told a w M = some (v, M) ∧ fM_told a w M = some (v, M) := by
  obtain ⟨⟨s, s1, s2, s3⟩, ⟨n, n1, n2, n3, n4⟩, h3, ⟨m, m1, m2, m3, m4⟩, h5, h6, h7, h8, h9⟩ := hR
  by_cases hw : ib w 8
  · obtain ⟨q, hq, rfl⟩ := ib_ex hw
    rcases (by omega : q = 0 ∨ q = 1 ∨ q = 2 ∨ q = 3 ∨ q = 4 ∨ q = 5 ∨ q = 6 ∨ q = 7) with rfl | rfl | rfl | rfl | rfl | rfl | rfl | rfl
    · refine ⟨M 1 0, rfl, ?_⟩
      unfold fM_told
      rw [show fM_in ((nI 0).toInt64) (0 : Int64) (7 : Int64) M = some (1, M) from rfl]
      simp only [Option.bind_some]
      unfold fM_told_b26 fM_isOf fM_isOf_b43
      rw [if_neg (by decide), if_pos (show nI 0 = 0 from rfl)]
      simp only [Option.bind_some]
      rw [if_neg (show ¬ (1 : Int32) = 0 by decide), if_neg (show ¬ (4 : Int32) ≤ nI 0 by decide), if_pos (show nI 0 = 0 from rfl), s2, s3]
    · refine ⟨_, toldN_1 a, (toldM_1 a).trans ?_⟩
      by_cases g : ib a 8
      · rw [if_pos g, if_pos g, (h3 _ (ix_lt g)).2]
      · rw [if_neg g, if_neg g]
    · refine ⟨_, toldN_2 n1 n2 a, (toldM_2 n1 n3 a).trans ?_⟩
      by_cases g : ib a n
      · rw [if_pos g, if_pos g, (n4 _ (ix_lt g)).2.1]
      · rw [if_neg g, if_neg g]
    · refine ⟨_, toldN_3 n1 n2 a, (toldM_3 n1 n3 a).trans ?_⟩
      by_cases g : ib a n
      · rw [if_pos g, if_pos g, (n4 _ (ix_lt g)).2.2.2]
      · rw [if_neg g, if_neg g]
    · refine ⟨_, toldN_4 m1 m2 a, (toldM_4 m1 m3 a).trans ?_⟩
      by_cases g : ib a m
      · rw [if_pos g, if_pos g, (m4 _ (ix_lt g)).2.1.2]
      · rw [if_neg g, if_neg g]
    · refine ⟨_, toldN_5 m1 m2 a, (toldM_5 m1 m3 a).trans ?_⟩
      by_cases g : ib a m
      · rw [if_pos g, if_pos g, (m4 _ (ix_lt g)).2.2.1.2]
      · rw [if_neg g, if_neg g]
    · refine ⟨_, toldN_6 m1 m2 a, (toldM_6 m1 m3 a).trans ?_⟩
      by_cases g : ib a m
      · rw [if_pos g, if_pos g, (m4 _ (ix_lt g)).1.2]
      · rw [if_neg g, if_neg g]
    · refine ⟨_, toldN_7 m1 m2 a, (toldM_7 m1 m3 a).trans ?_⟩
      by_cases g : ib a m
      · obtain ⟨l, l1, l2, l3, l4⟩ := (m4 _ (ix_lt g)).2.2.2
        rw [if_pos g, if_pos g, l2, l3]
      · rw [if_neg g, if_neg g]
  · rw [toldN_l m1 m2 a w hw, toldM_l m1 m3 a w hw (fun k hk => by obtain ⟨l, l1, l2, l3, l4⟩ := (m4 k hk).2.2.2; exact ⟨l, l1, l3⟩)]
    by_cases g : ib a m
    · rw [if_pos g, if_pos g]
      by_cases g5 : ib (w - 10) 5
      · rw [if_pos g5, if_pos g5]
        obtain ⟨k, hk, rfl⟩ := ib_ex g
        rw [ix_nI (by omega)]
        obtain ⟨l, l1, l2, l3, l4⟩ := (m4 k hk).2.2.2
        rw [fA_roomListed_eq _ _ _ (by rw [l2, nI_t (by omega)]; omega) g5.1]
        refine ⟨_, rfl, ?_⟩
        rw [l2, l3]
        by_cases hl : (w - 10).toInt < (nI l).toInt
        · rw [if_pos hl, if_pos hl]
          obtain ⟨i, hi, ei⟩ := ib_ex g5
          rw [ei, nI_t (by omega), nI_t (by omega)] at hl
          rw [ei, ix_nI (by omega), (l4 i (by omega)).2, show 6 + 2 * k + 1 = 7 + 2 * k by omega]
        · rw [if_neg hl, if_neg hl]
      · rw [if_neg g5, if_neg g5]
        exact ⟨_, rfl, rfl⟩
    · rw [if_neg g, if_neg g]
      exact ⟨_, rfl, rfl⟩
theorem op_told (a w : Int32) : Op (fN_told a w) (fM_told a w) := by
  intro M hR
  obtain ⟨v, e1, e2⟩ := told_both hR a w
  exact ⟨v, M, M, e1, e2, hR⟩
end
section
/-! 45: set -/
theorem set_0 (a v : Int32) : Op (fN_set 0 a v) (fM_set 0 a v) := by
  intro M hR
  obtain ⟨⟨s, s1, s2, s3⟩, ⟨n, n1, n2, n3, n4⟩, h3, ⟨m, m1, m2, m3, m4⟩, h5, h6, h7, h8, h9⟩ := hR
  have h1 : RS M := ⟨s, s1, s2, s3⟩
  have h2 : RTY M := ⟨n, n1, n2, n3, n4⟩
  have h4 : RM M := ⟨m, m1, m2, m3, m4⟩
  have hR := hR_intro h1 h2 h3 h4 h5 h6 h7 h8 h9
  have e1 : ([0, 0, 0, 1, 0, 0] : List Int32).getD (ix 0) 0 = 0 := rfl
  have e2 : ([3, 99, 7, 50, 9, 7] : List Int32).getD (ix 0) 0 = 3 := rfl
  have t1 : (0 : Int32).toInt = 0 := rfl
  have t2 : (3 : Int32).toInt = 3 := rfl
  unfold fN_set fN_set_b57 fM_set fM_set_b36 fM_set_b82
  simp only [fN_w6, fM_i6, Option.bind_some, bz_0, e1, e2]
  rw [if_neg (nn (show ib 0 6 by decide)), if_pos (show ib 0 6 by decide), if_pos (show ib 0 6 by decide)]
  have eo : fM_isOf 0 a M = some (1, M) := rfl
  by_cases g2 : 0 ≤ v.toInt ∧ v.toInt ≤ 3
  · rw [if_neg (by rw [i_lt, t1]; omega), if_pos (by rw [i_le, t2]; omega), show fN_told a 0 M = some (M 1 0, M) from rfl]
    simp only [Option.bind_some]
    rw [if_neg (by rw [s2]; intro z; have := nI_t (show s < 2147483648 by omega); rw [z] at this; exact absurd this (by rw [show (-2 : Int32).toInt = -2 from rfl]; omega))]
    rw [show fH_put 1 0 a v M = some (wr M 1 0 v) from rfl]
    simp only [Option.bind_some]
    refine ⟨M 1 0, wr M 1 0 v, wr (wr M 1 0 v) 85 7 v, rfl, ?_, ?_⟩
    · rw [if_neg (nn (show ib 0 6 by decide)), show fM_isOf 0 a (wr M 1 0 v) = some (1, wr M 1 0 v) from rfl]
      simp only [Option.bind_some]
      rw [if_neg (by decide), if_neg (by decide), fM_iv v 0 3 0 3 _ rfl rfl, if_pos trivial]
      simp only [Option.bind_some, bz_0]
      rw [if_neg (nn g2)]
      have et : fM_told a 0 (wr M 1 0 v) = some (M 1 0, wr M 1 0 v) := by
        unfold fM_told
        rw [show fM_in ((0 : Int32).toInt64) (0 : Int64) (7 : Int64) (wr M 1 0 v) = some (1, wr M 1 0 v) from rfl]
        simp only [Option.bind_some]
        unfold fM_told_b26
        rw [if_neg (by decide), show fM_isOf 0 a (wr M 1 0 v) = some (1, wr M 1 0 v) from rfl]
        simp only [Option.bind_some]
        rw [if_neg (by decide), if_neg (by decide), if_pos trivial, wr_ne (by decide), s2, s3]
      rw [et]
      rfl
    · have hv : v = nI (ix v) := (nI_ix g2.1).symm
      refine hR_intro ⟨ix v, by unfold ix; omega, by simp [wr]; exact hv, by simp [wr]; exact hv⟩ ((h2.put (by omega)).put (by omega)) ((h3.put (by omega)).put (by omega)) ((h4.put (by omega)).put (by omega)) ((h5.put (by omega)).put (by omega)) ((h6.put (by omega)).put (by omega)) ((h7.put (by omega)).put (by omega)) ((h8.put (by omega)).put (by omega)) ((h9.put (by omega)).put (by omega))
  · refine ⟨-2, M, M, ?_, ?_, hR⟩
    · by_cases g3 : v.toInt < 0
      · rw [if_pos (by rw [i_lt, t1]; exact g3)]
      · rw [if_neg (by rw [i_lt, t1]; exact g3), if_neg (by rw [i_le, t2]; omega)]
    · rw [if_neg (nn (show ib 0 6 by decide)), eo]
      simp only [Option.bind_some]
      rw [if_neg (by decide), if_neg (by decide), fM_iv v 0 3 0 3 _ rfl rfl, if_pos trivial]
      simp only [Option.bind_some, bz_0]
      rw [if_pos g2]
theorem set_1 (a v : Int32) : Op (fN_set 1 a v) (fM_set 1 a v) := by
  intro M hR
  obtain ⟨⟨s, s1, s2, s3⟩, ⟨n, n1, n2, n3, n4⟩, h3, ⟨m, m1, m2, m3, m4⟩, h5, h6, h7, h8, h9⟩ := hR
  have h1 : RS M := ⟨s, s1, s2, s3⟩
  have h2 : RTY M := ⟨n, n1, n2, n3, n4⟩
  have h4 : RM M := ⟨m, m1, m2, m3, m4⟩
  have hR := hR_intro h1 h2 h3 h4 h5 h6 h7 h8 h9
  have e1 : ([0, 0, 0, 1, 0, 0] : List Int32).getD (ix 1) 0 = 0 := rfl
  have e2 : ([3, 99, 7, 50, 9, 7] : List Int32).getD (ix 1) 0 = 99 := rfl
  have t1 : (0 : Int32).toInt = 0 := rfl
  have t2 : (99 : Int32).toInt = 99 := rfl
  unfold fN_set fN_set_b57 fM_set fM_set_b36 fM_set_b82
  simp only [fN_w6, fM_i6, Option.bind_some, bz_0, e1, e2]
  rw [if_neg (nn (show ib 1 6 by decide)), if_pos (show ib 1 6 by decide), if_pos (show ib 1 6 by decide)]
  by_cases g2 : 0 ≤ v.toInt ∧ v.toInt ≤ 99
  · rw [if_neg (by rw [i_lt, t1]; omega), if_pos (by rw [i_le, t2]; omega), toldN_1 a]
    simp only [Option.bind_some]
    by_cases g1 : ib a 8
    · rw [if_pos g1]
      obtain ⟨k, hk, rfl⟩ := ib_ex g1
      rw [ix_nI (by omega), if_neg (by intro z; have hb := (h3 k hk).1; rw [z] at hb; exact absurd hb (by decide))]
      have ep : fH_put 1 1 (nI k) v M = some (wr M 4 k v) := by
        unfold fH_put
        rw [if_neg (by decide), if_pos rfl, fN_w8]
        simp only [Option.bind_some, bz_0]
        rw [if_neg (nn (ib_mono g1 (by omega))), if_pos (ib_mono g1 (by omega)), ix_nI (by omega)]
      rw [ep]
      simp only [Option.bind_some]
      refine ⟨M 4 k, wr M 4 k v, wr (wr M 4 k v) 89 k v, rfl, ?_, ?_⟩
      · rw [if_neg (nn (show ib 1 6 by decide)), isOf_1 (nI k)]
        simp only [Option.bind_some, bz_0]
        rw [if_neg (nn g1), if_neg (show ¬ (1 : Int32) = 3 by decide), if_neg (show ¬ (1 : Int32) = 0 by decide), if_pos trivial, fM_iv v 0 99 0 99 _ rfl rfl]
        simp only [Option.bind_some, bz_0]
        rw [if_neg (nn g2), toldM_1 (nI k), if_pos g1]
        simp only [Option.bind_some]
        rw [ix_nI (by omega), wr_ne (by omega), (h3 k hk).2]
        have el : fM_lays 1 (nI k) v (wr M 4 k v) = some (wr (wr M 4 k v) 89 k v) := by
          unfold fM_lays
          rw [if_neg (by decide), if_pos rfl, if_pos (ib_mono g1 (by omega)), ix_nI (by omega)]
        rw [el]
        rfl
      · refine hR_intro ((h1.put (by omega)).put (by omega)) ((h2.put (by omega)).put (by omega)) ?_ ((h4.put (by omega)).put (by omega)) ((h5.put (by omega)).put (by omega)) ((h6.put (by omega)).put (by omega)) ((h7.put (by omega)).put (by omega)) ((h8.put (by omega)).put (by omega)) ((h9.put (by omega)).put (by omega))
        intro r hr
        by_cases hrk : r = k
        · subst hrk; simp [wr]; have := g2.1; have := g2.2; omega
        · simp [wr, hrk]; exact h3 r hr
    · rw [if_neg g1, if_pos (show (-2 : Int32) = -2 from rfl)]
      refine ⟨-2, M, M, rfl, ?_, hR⟩
      rw [if_neg (nn (show ib 1 6 by decide)), isOf_1 a]
      simp only [Option.bind_some, bz_0]
      rw [if_pos g1]
  · refine ⟨-2, M, M, ?_, ?_, hR⟩
    · by_cases g3 : v.toInt < 0
      · rw [if_pos (by rw [i_lt, t1]; exact g3)]
      · rw [if_neg (by rw [i_lt, t1]; exact g3), if_neg (by rw [i_le, t2]; omega)]
    · rw [if_neg (nn (show ib 1 6 by decide)), isOf_1 a]
      simp only [Option.bind_some, bz_0]
      by_cases g1 : ib a 8
      · rw [if_neg (nn g1), if_neg (show ¬ (1 : Int32) = 3 by decide), if_neg (show ¬ (1 : Int32) = 0 by decide), if_pos trivial, fM_iv v 0 99 0 99 _ rfl rfl]
        simp only [Option.bind_some, bz_0]
        rw [if_pos g2]
      · rw [if_pos g1]
theorem set_2 (a v : Int32) : Op (fN_set 2 a v) (fM_set 2 a v) := by
  intro M hR
  obtain ⟨⟨s, s1, s2, s3⟩, ⟨n, n1, n2, n3, n4⟩, h3, ⟨m, m1, m2, m3, m4⟩, h5, h6, h7, h8, h9⟩ := hR
  have h1 : RS M := ⟨s, s1, s2, s3⟩
  have h2 : RTY M := ⟨n, n1, n2, n3, n4⟩
  have h4 : RM M := ⟨m, m1, m2, m3, m4⟩
  have hR := hR_intro h1 h2 h3 h4 h5 h6 h7 h8 h9
  have e1 : ([0, 0, 0, 1, 0, 0] : List Int32).getD (ix 2) 0 = 0 := rfl
  have e2 : ([3, 99, 7, 50, 9, 7] : List Int32).getD (ix 2) 0 = 7 := rfl
  have t1 : (0 : Int32).toInt = 0 := rfl
  have t2 : (7 : Int32).toInt = 7 := rfl
  unfold fN_set fN_set_b57 fM_set fM_set_b36 fM_set_b82
  simp only [fN_w6, fM_i6, Option.bind_some, bz_0, e1, e2]
  rw [if_neg (nn (show ib 2 6 by decide)), if_pos (show ib 2 6 by decide), if_pos (show ib 2 6 by decide)]
  by_cases g2 : 0 ≤ v.toInt ∧ v.toInt ≤ 7
  · rw [if_neg (by rw [i_lt, t1]; omega), if_pos (by rw [i_le, t2]; omega), toldN_2 n1 n2 a]
    simp only [Option.bind_some]
    by_cases g1 : ib a n
    · rw [if_pos g1]
      obtain ⟨k, hk, rfl⟩ := ib_ex g1
      rw [ix_nI (by omega), if_neg (by intro z; have hb := (n4 k hk).1; rw [z] at hb; exact absurd hb (by decide))]
      have ep : fH_put 1 2 (nI k) v M = some (wr M 2 k v) := by
        unfold fH_put
        unfold fH_put_b36
        rw [if_neg (by decide), if_neg (by decide), if_pos rfl, fN_w8]
        simp only [Option.bind_some, bz_0]
        rw [if_neg (nn (ib_mono g1 (by omega))), if_pos (ib_mono g1 (by omega)), ix_nI (by omega)]
      rw [ep]
      simp only [Option.bind_some]
      refine ⟨M 2 k, wr M 2 k v, wr (wr M 2 k v) 90 k v, rfl, ?_, ?_⟩
      · rw [if_neg (nn (show ib 2 6 by decide)), isOf_2 n1 (show wr M 2 k v 85 11 = nI n by rw [wr_ne (by decide)]; exact n3) (nI k)]
        simp only [Option.bind_some, bz_0]
        rw [if_neg (nn g1), if_neg (show ¬ (2 : Int32) = 3 by decide), if_neg (show ¬ (2 : Int32) = 0 by decide), if_neg (show ¬ (2 : Int32) = 1 by decide), if_neg (show ¬ (2 : Int32) = 3 by decide), if_neg (show ¬ (2 : Int32) = 4 by decide), fM_iv v 0 7 0 7 _ rfl rfl]
        simp only [Option.bind_some, bz_0]
        rw [if_neg (nn g2), toldM_2 n1 (show wr M 2 k v 85 11 = nI n by rw [wr_ne (by decide)]; exact n3) (nI k), if_pos g1]
        simp only [Option.bind_some]
        rw [ix_nI (by omega), wr_ne (by omega), (n4 k hk).2.1]
        have el : fM_lays 2 (nI k) v (wr M 2 k v) = some (wr (wr M 2 k v) 90 k v) := by
          unfold fM_lays
          rw [if_neg (by decide), if_neg (by decide), if_pos rfl, if_pos (ib_mono g1 (by omega)), ix_nI (by omega)]
        rw [el]
        rfl
      · refine hR_intro ((h1.put (by omega)).put (by omega)) ?_ ((h3.put (by omega)).put (by omega)) ((h4.put (by omega)).put (by omega)) ((h5.put (by omega)).put (by omega)) ((h6.put (by omega)).put (by omega)) ((h7.put (by omega)).put (by omega)) ((h8.put (by omega)).put (by omega)) ((h9.put (by omega)).put (by omega))
        refine ⟨n, n1, by simp [wr]; exact n2, by simp [wr]; exact n3, fun i hi => ?_⟩
        by_cases hrk : i = k
        · subst hrk; simp [wr]; exact ⟨⟨g2.1, by have := g2.2; show v.toInt < 8; omega⟩, (n4 i hi).2.2⟩
        · simp [wr, hrk]; exact n4 i hi
    · rw [if_neg g1, if_pos (show (-2 : Int32) = -2 from rfl)]
      refine ⟨-2, M, M, rfl, ?_, hR⟩
      rw [if_neg (nn (show ib 2 6 by decide)), isOf_2 n1 n3 a]
      simp only [Option.bind_some, bz_0]
      rw [if_pos g1]
  · refine ⟨-2, M, M, ?_, ?_, hR⟩
    · by_cases g3 : v.toInt < 0
      · rw [if_pos (by rw [i_lt, t1]; exact g3)]
      · rw [if_neg (by rw [i_lt, t1]; exact g3), if_neg (by rw [i_le, t2]; omega)]
    · rw [if_neg (nn (show ib 2 6 by decide)), isOf_2 n1 n3 a]
      simp only [Option.bind_some, bz_0]
      by_cases g1 : ib a n
      · rw [if_neg (nn g1), if_neg (show ¬ (2 : Int32) = 3 by decide), if_neg (show ¬ (2 : Int32) = 0 by decide), if_neg (show ¬ (2 : Int32) = 1 by decide), if_neg (show ¬ (2 : Int32) = 3 by decide), if_neg (show ¬ (2 : Int32) = 4 by decide), fM_iv v 0 7 0 7 _ rfl rfl]
        simp only [Option.bind_some, bz_0]
        rw [if_pos g2]
      · rw [if_pos g1]
theorem set_3 (a v : Int32) : Op (fN_set 3 a v) (fM_set 3 a v) := by
  intro M hR
  obtain ⟨⟨s, s1, s2, s3⟩, ⟨n, n1, n2, n3, n4⟩, h3, ⟨m, m1, m2, m3, m4⟩, h5, h6, h7, h8, h9⟩ := hR
  have h1 : RS M := ⟨s, s1, s2, s3⟩
  have h2 : RTY M := ⟨n, n1, n2, n3, n4⟩
  have h4 : RM M := ⟨m, m1, m2, m3, m4⟩
  have hR := hR_intro h1 h2 h3 h4 h5 h6 h7 h8 h9
  have e1 : ([0, 0, 0, 1, 0, 0] : List Int32).getD (ix 3) 0 = 1 := rfl
  have e2 : ([3, 99, 7, 50, 9, 7] : List Int32).getD (ix 3) 0 = 50 := rfl
  have t1 : (1 : Int32).toInt = 1 := rfl
  have t2 : (50 : Int32).toInt = 50 := rfl
  unfold fN_set fN_set_b57 fM_set fM_set_b36 fM_set_b82
  simp only [fN_w6, fM_i6, Option.bind_some, bz_0, e1, e2]
  rw [if_neg (nn (show ib 3 6 by decide)), if_pos (show ib 3 6 by decide), if_pos (show ib 3 6 by decide)]
  by_cases g2 : 1 ≤ v.toInt ∧ v.toInt ≤ 50
  · rw [if_neg (by rw [i_lt, t1]; omega), if_pos (by rw [i_le, t2]; omega), toldN_3 n1 n2 a]
    simp only [Option.bind_some]
    by_cases g1 : ib a n
    · rw [if_pos g1]
      obtain ⟨k, hk, rfl⟩ := ib_ex g1
      rw [ix_nI (by omega), if_neg (by intro z; have hb := (n4 k hk).2.2.1; rw [z, show (-2 : Int32).toInt = -2 from rfl] at hb; omega)]
      have ep : fH_put 1 3 (nI k) v M = some (wr M 3 k v) := by
        unfold fH_put
        unfold fH_put_b36 fH_put_b60
        rw [if_neg (by decide), if_neg (by decide), if_neg (by decide), if_pos rfl, fN_w8]
        simp only [Option.bind_some, bz_0]
        rw [if_neg (nn (ib_mono g1 (by omega))), if_pos (ib_mono g1 (by omega)), ix_nI (by omega)]
      rw [ep]
      simp only [Option.bind_some]
      refine ⟨M 3 k, wr M 3 k v, wr (wr M 3 k v) 91 k v, rfl, ?_, ?_⟩
      · rw [if_neg (nn (show ib 3 6 by decide)), isOf_3 n1 (show wr M 3 k v 85 11 = nI n by rw [wr_ne (by decide)]; exact n3) (nI k)]
        simp only [Option.bind_some, bz_0]
        rw [if_neg (nn g1), if_pos trivial, if_neg (show ¬ (3 : Int32) = 0 by decide), if_neg (show ¬ (3 : Int32) = 1 by decide), if_pos trivial, fM_iv v 1 50 1 50 _ rfl rfl]
        simp only [Option.bind_some, bz_0]
        rw [if_neg (nn g2), toldM_3 n1 (show wr M 3 k v 85 11 = nI n by rw [wr_ne (by decide)]; exact n3) (nI k), if_pos g1]
        simp only [Option.bind_some]
        rw [ix_nI (by omega), wr_ne (by omega), (n4 k hk).2.2.2]
        have el : fM_lays 3 (nI k) v (wr M 3 k v) = some (wr (wr M 3 k v) 91 k v) := by
          unfold fM_lays
          rw [if_neg (by decide), if_neg (by decide), if_neg (by decide), if_pos rfl, if_pos (ib_mono g1 (by omega)), ix_nI (by omega)]
        rw [el]
        rfl
      · refine hR_intro ((h1.put (by omega)).put (by omega)) ?_ ((h3.put (by omega)).put (by omega)) ((h4.put (by omega)).put (by omega)) ((h5.put (by omega)).put (by omega)) ((h6.put (by omega)).put (by omega)) ((h7.put (by omega)).put (by omega)) ((h8.put (by omega)).put (by omega)) ((h9.put (by omega)).put (by omega))
        refine ⟨n, n1, by simp [wr]; exact n2, by simp [wr]; exact n3, fun i hi => ?_⟩
        by_cases hrk : i = k
        · subst hrk; simp [wr]; exact ⟨(n4 i hi).1, (n4 i hi).2.1, g2⟩
        · simp [wr, hrk]; exact n4 i hi
    · rw [if_neg g1, if_pos (show (-2 : Int32) = -2 from rfl)]
      refine ⟨-2, M, M, rfl, ?_, hR⟩
      rw [if_neg (nn (show ib 3 6 by decide)), isOf_3 n1 n3 a]
      simp only [Option.bind_some, bz_0]
      rw [if_pos g1]
  · refine ⟨-2, M, M, ?_, ?_, hR⟩
    · by_cases g3 : v.toInt < 1
      · rw [if_pos (by rw [i_lt, t1]; exact g3)]
      · rw [if_neg (by rw [i_lt, t1]; exact g3), if_neg (by rw [i_le, t2]; omega)]
    · rw [if_neg (nn (show ib 3 6 by decide)), isOf_3 n1 n3 a]
      simp only [Option.bind_some, bz_0]
      by_cases g1 : ib a n
      · rw [if_neg (nn g1), if_pos trivial, if_neg (show ¬ (3 : Int32) = 0 by decide), if_neg (show ¬ (3 : Int32) = 1 by decide), if_pos trivial, fM_iv v 1 50 1 50 _ rfl rfl]
        simp only [Option.bind_some, bz_0]
        rw [if_pos g2]
      · rw [if_pos g1]
theorem set_4 (a v : Int32) : Op (fN_set 4 a v) (fM_set 4 a v) := by
  intro M hR
  obtain ⟨⟨s, s1, s2, s3⟩, ⟨n, n1, n2, n3, n4⟩, h3, ⟨m, m1, m2, m3, m4⟩, h5, h6, h7, h8, h9⟩ := hR
  have h1 : RS M := ⟨s, s1, s2, s3⟩
  have h2 : RTY M := ⟨n, n1, n2, n3, n4⟩
  have h4 : RM M := ⟨m, m1, m2, m3, m4⟩
  have hR := hR_intro h1 h2 h3 h4 h5 h6 h7 h8 h9
  have e1 : ([0, 0, 0, 1, 0, 0] : List Int32).getD (ix 4) 0 = 0 := rfl
  have e2 : ([3, 99, 7, 50, 9, 7] : List Int32).getD (ix 4) 0 = 9 := rfl
  have t1 : (0 : Int32).toInt = 0 := rfl
  have t2 : (9 : Int32).toInt = 9 := rfl
  unfold fN_set fN_set_b57 fM_set fM_set_b36 fM_set_b82
  simp only [fN_w6, fM_i6, Option.bind_some, bz_0, e1, e2]
  rw [if_neg (nn (show ib 4 6 by decide)), if_pos (show ib 4 6 by decide), if_pos (show ib 4 6 by decide)]
  by_cases g2 : 0 ≤ v.toInt ∧ v.toInt ≤ 9
  · rw [if_neg (by rw [i_lt, t1]; omega), if_pos (by rw [i_le, t2]; omega), toldN_4 m1 m2 a]
    simp only [Option.bind_some]
    by_cases g1 : ib a m
    · rw [if_pos g1]
      obtain ⟨k, hk, rfl⟩ := ib_ex g1
      rw [ix_nI (by omega), if_neg (by intro z; have hb := (m4 k hk).2.1.1; rw [z] at hb; exact absurd hb (by decide))]
      have ep : fH_put 1 4 (nI k) v M = some (wr M (6 + 2 * k) 1 v) := by
        unfold fH_put
        unfold fH_put_b36 fH_put_b60 fH_put_b84
        rw [if_neg (by decide), if_neg (by decide), if_neg (by decide), if_neg (by decide), if_pos rfl, fN_w4]
        simp only [Option.bind_some, bz_0]
        rw [if_neg (nn (ib_mono g1 (by omega))), if_pos (ib_mono g1 (by omega)), ix_nI (by omega)]
      rw [ep]
      simp only [Option.bind_some]
      refine ⟨M (6 + 2 * k) 1, wr M (6 + 2 * k) 1 v, wr (wr M (6 + 2 * k) 1 v) 93 k v, rfl, ?_, ?_⟩
      · rw [if_neg (nn (show ib 4 6 by decide)), isOf_4 m1 (show wr M (6 + 2 * k) 1 v 85 17 = nI m by rw [wr_ne (by omega)]; exact m3) (nI k)]
        simp only [Option.bind_some, bz_0]
        rw [if_neg (nn g1), if_neg (show ¬ (4 : Int32) = 3 by decide), if_neg (show ¬ (4 : Int32) = 0 by decide), if_neg (show ¬ (4 : Int32) = 1 by decide), if_neg (show ¬ (4 : Int32) = 3 by decide), if_pos trivial, fM_iv v 0 9 0 9 _ rfl rfl]
        simp only [Option.bind_some, bz_0]
        rw [if_neg (nn g2), toldM_4 m1 (show wr M (6 + 2 * k) 1 v 85 17 = nI m by rw [wr_ne (by omega)]; exact m3) (nI k), if_pos g1]
        simp only [Option.bind_some]
        rw [ix_nI (by omega), wr_ne (by omega), (m4 k hk).2.1.2]
        have el : fM_lays 4 (nI k) v (wr M (6 + 2 * k) 1 v) = some (wr (wr M (6 + 2 * k) 1 v) 93 k v) := by
          unfold fM_lays
          rw [if_neg (by decide), if_neg (by decide), if_neg (by decide), if_neg (by decide), if_pos rfl, if_pos (ib_mono g1 (by omega)), ix_nI (by omega)]
        rw [el]
        rfl
      · refine hR_intro ((h1.put (by omega)).put (by omega)) ((h2.put (by omega)).put (by omega)) ((h3.put (by omega)).put (by omega)) ?_ ((h5.put (by omega)).put (by omega)) ((h6.put (by omega)).put (by omega)) ((h7.put (by omega)).put (by omega)) ((h8.put (by omega)).put (by omega)) ((h9.put (by omega)).put (by omega))
        refine ⟨m, m1, by rw [wr_ne (by omega), wr_ne (by omega)]; exact m2, by rw [wr_ne (by omega), wr_ne (by omega)]; exact m3, fun i hi => ?_⟩
        by_cases hrk : i = k
        · subst hrk
          obtain ⟨d1, d2, d3, d4⟩ := m4 i hi
          unfold MD
          rw [wr_ne (show 6 + 2 * i ≠ 93 by omega), wr_stS, wr_ne (show 7 + 2 * i ≠ 93 by omega), wr_ne (show 7 + 2 * i ≠ 6 + 2 * i by omega), wr_ne (show 92 ≠ 93 by decide), wr_ne (show 92 ≠ 6 + 2 * i by omega), wr_same, wr_ne (show 94 ≠ 93 by decide), wr_ne (show 94 ≠ 6 + 2 * i by omega), wr_ne (show 95 ≠ 93 by decide), wr_ne (show 95 ≠ 6 + 2 * i by omega), wr_ne (show 96 ≠ 93 by decide), wr_ne (show 96 ≠ 6 + 2 * i by omega)]
          unfold stS
          rw [if_neg (by decide), if_pos rfl, if_neg (by decide), if_neg (by decide)]
          exact ⟨d1, ⟨⟨g2.1, by have := g2.2; omega⟩, rfl⟩, d3, d4⟩
        · exact (m4 i hi).at (by rw [wr_ne (by omega), wr_ne (by omega)]) (by rw [wr_ne (by omega), wr_ne (by omega)]) (by rw [wr_ne (by omega), wr_ne (by omega)]) (by rw [wr_at (by omega), wr_ne (by omega)]) (by rw [wr_ne (by omega), wr_ne (by omega)]) (fun j hj => by rw [wr_ne (by omega), wr_ne (by omega)]) (by rw [wr_ne (by omega), wr_ne (by omega)])
    · rw [if_neg g1, if_pos (show (-2 : Int32) = -2 from rfl)]
      refine ⟨-2, M, M, rfl, ?_, hR⟩
      rw [if_neg (nn (show ib 4 6 by decide)), isOf_4 m1 m3 a]
      simp only [Option.bind_some, bz_0]
      rw [if_pos g1]
  · refine ⟨-2, M, M, ?_, ?_, hR⟩
    · by_cases g3 : v.toInt < 0
      · rw [if_pos (by rw [i_lt, t1]; exact g3)]
      · rw [if_neg (by rw [i_lt, t1]; exact g3), if_neg (by rw [i_le, t2]; omega)]
    · rw [if_neg (nn (show ib 4 6 by decide)), isOf_4 m1 m3 a]
      simp only [Option.bind_some, bz_0]
      by_cases g1 : ib a m
      · rw [if_neg (nn g1), if_neg (show ¬ (4 : Int32) = 3 by decide), if_neg (show ¬ (4 : Int32) = 0 by decide), if_neg (show ¬ (4 : Int32) = 1 by decide), if_neg (show ¬ (4 : Int32) = 3 by decide), if_pos trivial, fM_iv v 0 9 0 9 _ rfl rfl]
        simp only [Option.bind_some, bz_0]
        rw [if_pos g2]
      · rw [if_pos g1]
theorem set_5 (a v : Int32) : Op (fN_set 5 a v) (fM_set 5 a v) := by
  intro M hR
  obtain ⟨⟨s, s1, s2, s3⟩, ⟨n, n1, n2, n3, n4⟩, h3, ⟨m, m1, m2, m3, m4⟩, h5, h6, h7, h8, h9⟩ := hR
  have h1 : RS M := ⟨s, s1, s2, s3⟩
  have h2 : RTY M := ⟨n, n1, n2, n3, n4⟩
  have h4 : RM M := ⟨m, m1, m2, m3, m4⟩
  have hR := hR_intro h1 h2 h3 h4 h5 h6 h7 h8 h9
  have e1 : ([0, 0, 0, 1, 0, 0] : List Int32).getD (ix 5) 0 = 0 := rfl
  have e2 : ([3, 99, 7, 50, 9, 7] : List Int32).getD (ix 5) 0 = 7 := rfl
  have t1 : (0 : Int32).toInt = 0 := rfl
  have t2 : (7 : Int32).toInt = 7 := rfl
  unfold fN_set fN_set_b57 fM_set fM_set_b36 fM_set_b82
  simp only [fN_w6, fM_i6, Option.bind_some, bz_0, e1, e2]
  rw [if_neg (nn (show ib 5 6 by decide)), if_pos (show ib 5 6 by decide), if_pos (show ib 5 6 by decide)]
  by_cases g2 : 0 ≤ v.toInt ∧ v.toInt ≤ 7
  · rw [if_neg (by rw [i_lt, t1]; omega), if_pos (by rw [i_le, t2]; omega), toldN_5 m1 m2 a]
    simp only [Option.bind_some]
    by_cases g1 : ib a m
    · rw [if_pos g1]
      obtain ⟨k, hk, rfl⟩ := ib_ex g1
      rw [ix_nI (by omega), if_neg (by intro z; have hb := (m4 k hk).2.2.1.1; rw [z] at hb; exact absurd hb (by decide))]
      have ep : fH_put 1 5 (nI k) v M = some (wr M (6 + 2 * k) 2 v) := by
        unfold fH_put
        unfold fH_put_b36 fH_put_b60 fH_put_b84 fH_put_b110
        rw [if_neg (by decide), if_neg (by decide), if_neg (by decide), if_neg (by decide), if_neg (by decide), if_pos rfl, fN_w4]
        simp only [Option.bind_some, bz_0]
        rw [if_neg (nn (ib_mono g1 (by omega))), if_pos (ib_mono g1 (by omega)), ix_nI (by omega)]
      rw [ep]
      simp only [Option.bind_some]
      refine ⟨M (6 + 2 * k) 2, wr M (6 + 2 * k) 2 v, wr (wr M (6 + 2 * k) 2 v) 94 k v, rfl, ?_, ?_⟩
      · rw [if_neg (nn (show ib 5 6 by decide)), isOf_5 m1 (show wr M (6 + 2 * k) 2 v 85 17 = nI m by rw [wr_ne (by omega)]; exact m3) (nI k)]
        simp only [Option.bind_some, bz_0]
        rw [if_neg (nn g1), if_neg (show ¬ (5 : Int32) = 3 by decide), if_neg (show ¬ (5 : Int32) = 0 by decide), if_neg (show ¬ (5 : Int32) = 1 by decide), if_neg (show ¬ (5 : Int32) = 3 by decide), if_neg (show ¬ (5 : Int32) = 4 by decide), fM_iv v 0 7 0 7 _ rfl rfl]
        simp only [Option.bind_some, bz_0]
        rw [if_neg (nn g2), toldM_5 m1 (show wr M (6 + 2 * k) 2 v 85 17 = nI m by rw [wr_ne (by omega)]; exact m3) (nI k), if_pos g1]
        simp only [Option.bind_some]
        rw [ix_nI (by omega), wr_ne (by omega), (m4 k hk).2.2.1.2]
        have el : fM_lays 5 (nI k) v (wr M (6 + 2 * k) 2 v) = some (wr (wr M (6 + 2 * k) 2 v) 94 k v) := by
          unfold fM_lays
          rw [if_neg (by decide), if_neg (by decide), if_neg (by decide), if_neg (by decide), if_neg (by decide), if_pos (ib_mono g1 (by omega)), ix_nI (by omega)]
        rw [el]
        rfl
      · refine hR_intro ((h1.put (by omega)).put (by omega)) ((h2.put (by omega)).put (by omega)) ((h3.put (by omega)).put (by omega)) ?_ ((h5.put (by omega)).put (by omega)) ((h6.put (by omega)).put (by omega)) ((h7.put (by omega)).put (by omega)) ((h8.put (by omega)).put (by omega)) ((h9.put (by omega)).put (by omega))
        refine ⟨m, m1, by rw [wr_ne (by omega), wr_ne (by omega)]; exact m2, by rw [wr_ne (by omega), wr_ne (by omega)]; exact m3, fun i hi => ?_⟩
        by_cases hrk : i = k
        · subst hrk
          obtain ⟨d1, d2, d3, d4⟩ := m4 i hi
          unfold MD
          rw [wr_ne (show 6 + 2 * i ≠ 94 by omega), wr_stS, wr_ne (show 7 + 2 * i ≠ 94 by omega), wr_ne (show 7 + 2 * i ≠ 6 + 2 * i by omega), wr_ne (show 92 ≠ 94 by decide), wr_ne (show 92 ≠ 6 + 2 * i by omega), wr_ne (show 93 ≠ 94 by decide), wr_ne (show 93 ≠ 6 + 2 * i by omega), wr_same, wr_ne (show 95 ≠ 94 by decide), wr_ne (show 95 ≠ 6 + 2 * i by omega), wr_ne (show 96 ≠ 94 by decide), wr_ne (show 96 ≠ 6 + 2 * i by omega)]
          unfold stS
          rw [if_neg (by decide), if_neg (by decide), if_pos rfl, if_neg (by decide)]
          exact ⟨d1, d2, ⟨⟨g2.1, by have := g2.2; omega⟩, rfl⟩, d4⟩
        · exact (m4 i hi).at (by rw [wr_ne (by omega), wr_ne (by omega)]) (by rw [wr_ne (by omega), wr_ne (by omega)]) (by rw [wr_ne (by omega), wr_ne (by omega)]) (by rw [wr_ne (by omega), wr_ne (by omega)]) (by rw [wr_at (by omega), wr_ne (by omega)]) (fun j hj => by rw [wr_ne (by omega), wr_ne (by omega)]) (by rw [wr_ne (by omega), wr_ne (by omega)])
    · rw [if_neg g1, if_pos (show (-2 : Int32) = -2 from rfl)]
      refine ⟨-2, M, M, rfl, ?_, hR⟩
      rw [if_neg (nn (show ib 5 6 by decide)), isOf_5 m1 m3 a]
      simp only [Option.bind_some, bz_0]
      rw [if_pos g1]
  · refine ⟨-2, M, M, ?_, ?_, hR⟩
    · by_cases g3 : v.toInt < 0
      · rw [if_pos (by rw [i_lt, t1]; exact g3)]
      · rw [if_neg (by rw [i_lt, t1]; exact g3), if_neg (by rw [i_le, t2]; omega)]
    · rw [if_neg (nn (show ib 5 6 by decide)), isOf_5 m1 m3 a]
      simp only [Option.bind_some, bz_0]
      by_cases g1 : ib a m
      · rw [if_neg (nn g1), if_neg (show ¬ (5 : Int32) = 3 by decide), if_neg (show ¬ (5 : Int32) = 0 by decide), if_neg (show ¬ (5 : Int32) = 1 by decide), if_neg (show ¬ (5 : Int32) = 3 by decide), if_neg (show ¬ (5 : Int32) = 4 by decide), fM_iv v 0 7 0 7 _ rfl rfl]
        simp only [Option.bind_some, bz_0]
        rw [if_pos g2]
      · rw [if_pos g1]
theorem op_set (w a v : Int32) : Op (fN_set w a v) (fM_set w a v) := by
  by_cases h : ib w 6
  · obtain ⟨q, hq, rfl⟩ := ib_ex h
    rcases (by omega : q = 0 ∨ q = 1 ∨ q = 2 ∨ q = 3 ∨ q = 4 ∨ q = 5) with rfl | rfl | rfl | rfl | rfl | rfl
    · exact set_0 a v
    · exact set_1 a v
    · exact set_2 a v
    · exact set_3 a v
    · exact set_4 a v
    · exact set_5 a v
  · intro M hR
    unfold fN_set fM_set
    simp only [fN_w6, fM_i6, Option.bind_some, bz_0]
    exact ⟨-2, M, M, by rw [if_pos h], by rw [if_pos h], hR⟩
end
section
/-! 46: ways, the tape, the rule, the master -/
theorem gaM_same {s : Nat} {M : Mem} : Same M (gaM s M) := by
  have r : ∀ a b, a ≠ 97 → gaM s M a b = M a b := fun a b h => by unfold gaM tbM; rw [if_neg (fun z => h z.1)]
  exact ⟨fun a h => funext fun b => r a b (by omega), ⟨r 0 3 (by decide), r 0 6 (by decide)⟩, fun j _ => r 1 j (by decide), r 40 1 (by decide), fun j _ => r 85 j (by decide)⟩
theorem gaM_lw {s : Nat} {M : Mem} (h : LW M) : LW (gaM s M) := h.same (by unfold gaM tbM; rw [if_neg (by omega)]) (funext fun b => by unfold gaM tbM; rw [if_neg (by omega)])
theorem op_way (a b w : Int32) : Op (fN_way a b w) (fM_way a b w) := by
  intro M hR
  obtain ⟨s, s1, s2, s3⟩ := hR.1
  have hlw := hR.2.2.2.2.2.2.2.2.2
  unfold fN_way fM_way
  simp only [fN_w8, fN_w2, fM_r8, fM_i2, Option.bind_some, bz_0]
  by_cases g1 : ib a 8
  · rw [if_neg (nn g1)]
    by_cases g2 : ib b 8
    · rw [if_neg (nn g2)]
      by_cases g3 : ib w 2
      · rw [if_neg (nn g3)]
        have hR2 : Rel (gaM s M) := hR.same gaM_same (gaM_lw hlw)
        have hTB := gaM_TB s3
        obtain ⟨x, hx, rfl⟩ := ib_ex g1
        obtain ⟨y, hy, rfl⟩ := ib_ex g2
        by_cases g0 : w = 0
        · rw [if_pos g0, fY_far_eq, s2]
          simp only [Option.bind_some]
          refine ⟨_, M, gaM s M, rfl, ?_, hR2⟩
          rw [if_neg (nn g1), if_neg (nn g2), if_neg (nn g3), fM_gathers_eq s1 s3]
          simp only [Option.bind_some]
          have e8 : 8 * nI x + nI y = nI (8 * x + y) := by rw [show (8 : Int32) = nI 8 from rfl, pk_mul, nI_add]
          rw [if_pos g0, e8, if_pos (ib_nI (by omega) (by omega)), ix_nI (by omega), hTB.2 _ (by omega), far_ok s s1 x hx y hy]
        · rw [if_neg g0, s2, fY_nextRoom_eq M s1 hx hy]
          simp only [Option.bind_some]
          refine ⟨_, M, gaM s M, rfl, ?_, hR2⟩
          rw [if_neg (nn g1), if_neg (nn g2), if_neg (nn g3), fM_gathers_eq s1 s3]
          simp only [Option.bind_some]
          rw [if_neg g0, fM_nextTo_eq s1 hTB hx hy]
          rfl
      · exact ⟨-2, M, M, by rw [if_pos g3], by rw [if_neg (nn g1), if_neg (nn g2), if_pos g3], hR⟩
    · exact ⟨-2, M, M, by rw [if_pos g2], by rw [if_neg (nn g1), if_pos g2], hR⟩
  · exact ⟨-2, M, M, by rw [if_pos g1], by rw [if_pos g1], hR⟩
theorem op_feed (a : Int32) : Op (fN_feed a) (fM_feed a) := by
  intro M hR
  obtain ⟨h1, h2, h3, h4, h5, ⟨n, n1, n2, n3, n4⟩, h7, h8, h9⟩ := hR
  have hR := hR_intro h1 h2 h3 h4 h5 ⟨n, n1, n2, n3, n4⟩ h7 h8 h9
  unfold fN_feed fM_feed fR_add
  simp only [fN_w256, fM_i256, Option.bind_some, bz_0]
  by_cases g1 : ib a 256
  · rw [if_neg (nn g1), n2]
    by_cases h160 : n = 160
    · subst h160
      refine ⟨-4, M, M, ?_, ?_, hR⟩
      · rw [if_neg (by decide)]; rfl
      · rw [if_neg (nn g1), n3, if_pos (by decide)]
    · rw [if_pos (by rw [show (160 : Int32) = nI 160 from rfl, n_lt (by omega) (by omega)]; omega), if_pos (ib_nI (by omega) (by omega)), ix_nI (by omega), wr_ne (show 40 ≠ 41 by decide), n2, nI_1]
      simp only [Option.bind_some]
      rw [if_neg (by decide), wr_same]
      refine ⟨nI (n + 1), _, wr (wr (wr (wr M 41 n a) 40 1 (nI (n + 1))) 88 n a) 85 6 (nI (n + 1)), rfl, ?_, ?_⟩
      · have q3 : (wr (wr M 41 n a) 40 1 (nI (n + 1))) 85 6 = nI n := by rw [wr_ne (by decide), wr_ne (by decide)]; exact n3
        rw [if_neg (nn g1), q3, if_neg (by rw [show (160 : Int32) = nI 160 from rfl, n_eq (by omega) (by omega)]; exact h160), if_pos (ib_nI (by omega) (by omega)), ix_nI (by omega), wr_ne (show 85 ≠ 88 by decide), q3, nI_1, wr_same]
      · refine hR_intro ((((h1.put (by omega)).put (by omega)).put (by omega)).put (by omega)) ((((h2.put (by omega)).put (by omega)).put (by omega)).put (by omega)) ((((h3.put (by omega)).put (by omega)).put (by omega)).put (by omega)) ((((h4.put (by omega)).put (by omega)).put (by omega)).put (by omega)) ((((h5.put (by omega)).put (by omega)).put (by omega)).put (by omega)) ⟨n + 1, by omega, by simp [wr], by simp [wr], fun i hi => ?_⟩ ((((h7.put (by omega)).put (by omega)).put (by omega)).put (by omega)) ((((h8.put (by omega)).put (by omega)).put (by omega)).put (by omega)) ((((h9.put (by omega)).put (by omega)).put (by omega)).put (by omega))
        by_cases hin : i = n
        · subst hin
          simp [wr]
          exact g1
        · simp [wr, hin]
          exact n4 i (by omega)
  · exact ⟨-2, M, M, by rw [if_pos g1], by rw [if_pos g1], hR⟩
theorem fM_tc {c : Nat} (a : Int32) (M : Mem) (hc : c ≤ 6) (h : M 85 3 = nI c) : fM_in a.toInt64 (0 : Int64) ((M 85 3 - 1).toInt64) M = some (bz (ib a c), M) := by
  refine fM_ib a _ _ c M rfl ?_
  rw [t64, h]
  have e1 : (1 : Int32).toInt = 1 := rfl
  rw [t_sub (by rw [nI_t (by omega)]; omega) (by rw [nI_t (by omega)]; omega), nI_t (by omega), e1]
  omega
theorem op_force (a : Int32) : Op (fN_force a) (fM_force a) := by
  intro M hR
  obtain ⟨h1, h2, h3, h4, ⟨c, r, c1, c2, c3, c4, r1, r2, r3, ct⟩, h6, h7, h8, h9⟩ := hR
  have hR := hR_intro h1 h2 h3 h4 ⟨c, r, c1, c2, c3, c4, r1, r2, r3, ct⟩ h6 h7 h8 h9
  unfold fN_force fM_force
  simp only [c3, fN_w _ c _ (show c < 2147483648 by omega), Option.bind_some, bz_0]
  by_cases g1 : ib a c
  · rw [if_neg (nn g1)]
    obtain ⟨x, hx, rfl⟩ := ib_ex g1
    refine ⟨M 1 3, wr M 1 3 (nI x), wr (wr M 1 3 (nI x)) 85 4 (nI x), rfl, ?_, ?_⟩
    · rw [fM_tc _ _ c2 (by rw [wr_ne (by decide)]; exact c4)]
      simp only [Option.bind_some, bz_0]
      rw [if_neg (nn g1), wr_ne (by decide), r2, r3]
    · refine hR_intro ((h1.put (by omega)).put (by omega)) ((h2.put (by omega)).put (by omega)) ((h3.put (by omega)).put (by omega)) ((h4.put (by omega)).put (by omega)) ⟨c, x, c1, c2, by simp [wr]; exact c3, by simp [wr]; exact c4, hx, by simp [wr], by simp [wr], fun t ht => ?_⟩ ((h6.put (by omega)).put (by omega)) ((h7.put (by omega)).put (by omega)) ((h8.put (by omega)).put (by omega)) ((h9.put (by omega)).put (by omega))
      exact (ct t ht).same (by rw [wr_ne (by omega), wr_ne (by omega)]) (by rw [wr_ne (by omega), wr_ne (by omega)]) (by rw [wr_ne (by omega), wr_ne (by omega)]) (fun i _ => by rw [wr_ne (by omega), wr_ne (by omega)])
  · refine ⟨-2, M, M, by rw [if_pos g1], ?_, hR⟩
    rw [fM_tc _ _ c2 c4]
    simp only [Option.bind_some, bz_0]
    rw [if_pos g1]
theorem fM_text_b14_eq {c n : Nat} (hc : c < 6) (hn : n ≤ 160) : ∀ (k i z : Nat) (N : Mem), i + k = n → k < z → N 85 6 = nI n → N 85 3 = nI c → ∃ N', fM_text_b14 z (nI i) N = fM_text_b14 (z - k) (nI n) N' ∧ (∀ a, a ≠ 86 → N' a = N a) ∧ (∀ j, N' 86 j = if 160 * c + i ≤ j ∧ j < 160 * c + n then N 88 (j - 160 * c) else N 86 j) := by
  intro k
  induction k with
  | zero =>
    intro i z N hi hz h6 h3
    have : i = n := by omega
    subst this
    exact ⟨N, by rw [Nat.sub_zero], fun _ _ => rfl, fun j => by rw [if_neg (by omega)]⟩
  | succ k ih =>
    intro i z N hi hz h6 h3
    obtain ⟨z, rfl⟩ := Nat.exists_eq_succ_of_ne_zero (show z ≠ 0 by omega)
    rw [fM_text_b14, h6, if_neg (by rw [n_le (by omega) (by omega)]; omega), if_pos (ib_nI (by omega) (by omega)), h3, show (160 : Int32) * nI c + nI i = nI (160 * c + i) by rw [show (160 : Int32) = nI 160 from rfl, pk_mul, nI_add], if_pos (ib_nI (by omega) (by omega)), ix_nI (by omega), ix_nI (by omega), nI_1]
    obtain ⟨N', e1, e2, e3⟩ := ih (i + 1) z (wr N 86 (160 * c + i) (N 88 i)) (by omega) (by omega) (by rw [wr_ne (by decide)]; exact h6) (by rw [wr_ne (by decide)]; exact h3)
    refine ⟨N', by rw [e1, show z.succ - (k + 1) = z - k by omega], fun a ha => by rw [e2 a ha, wr_ne ha], fun j => ?_⟩
    rw [e3 j, wr_ne (show 88 ≠ 86 by decide)]
    by_cases hj : j = 160 * c + i
    · subst hj
      rw [if_neg (by omega), wr_same, if_pos (by omega), Nat.add_sub_cancel_left]
    · rw [wr_at hj]
      by_cases h : 160 * c + (i + 1) ≤ j ∧ j < 160 * c + n
      · rw [if_pos h, if_pos (by omega)]
      · rw [if_neg h, if_neg (by omega)]
theorem op_text : Op fN_text fM_text := by
  intro M hR
  obtain ⟨h1, h2, h3, h4, ⟨c, r, c1, c2, c3, c4, r1, r2, r3, ct⟩, ⟨n, n1, n2, n3, n4⟩, h7, h8, h9⟩ := hR
  have hR := hR_intro h1 h2 h3 h4 ⟨c, r, c1, c2, c3, c4, r1, r2, r3, ct⟩ ⟨n, n1, n2, n3, n4⟩ h7 h8 h9
  unfold fN_text fM_text
  rw [c3]
  by_cases h6c : c = 6
  · subst h6c
    exact ⟨-4, M, M, by rw [if_neg (by decide)], by rw [c4, if_pos (by decide)], hR⟩
  · rw [if_pos (by rw [show (6 : Int32) = nI 6 from rfl, n_lt (by omega) (by omega)]; omega), if_pos (ib_nI (by omega) (by omega)), ix_nI (by omega)]
    obtain ⟨x, C, e1, k1, k2, res⟩ := read_text (t := c) (g := 59 + 3 * c) (T := M 41) (fun i hi => ((n4 i hi).2).1) (by omega) (by omega) ⟨n2, n1, fun _ _ => rfl⟩
    rw [e1]
    simp only [Option.bind_some]
    -- the model's side: what it copies, then reads
    have mod : ∀ D : Mem, (∀ a, 85 ≤ a → D a = M a) → ∃ N1, (∀ a, a ≠ 86 → a ≠ 87 → a ≠ 85 → N1 a = D a) ∧ (∀ j, j ≠ 6 → N1 85 j = M 85 j) ∧ N1 85 6 = 0 ∧ N1 87 = stS (M 87) c (nI n) ∧ (∀ j, N1 86 j = if 160 * c ≤ j ∧ j < 160 * c + n then M 88 (j - 160 * c) else M 86 j) ∧ fM_text_b14 1000 0 D = (fM_read (nI c) (nI 0) N1).bind (fun w1 => if (w1.2 85 34) = 0 then some ((((wr w1.2 85 3 ((w1.2 85 3) + 1)) 85 3) - 1), (wr w1.2 85 3 ((w1.2 85 3) + 1))) else some (((-100) - (w1.2 85 35)), w1.2)) := by
      intro D hD
      obtain ⟨D', y1, y2, y3⟩ := fM_text_b14_eq (c := c) (n := n) (by omega) n1 n 0 1000 D (by omega) (by omega) (by rw [hD 85 (by omega)]; exact n3) (by rw [hD 85 (by omega)]; exact c4)
      have d85 : D' 85 = M 85 := by rw [y2 85 (by decide), hD 85 (by omega)]
      refine ⟨wr (wr D' 87 c (nI n)) 85 6 0, fun a a1 a2 a3 => by rw [wr_ne a3, wr_ne a2, y2 a a1], fun j hj => by rw [wr_at hj, wr_ne (by decide), d85], wr_same, by rw [wr_ne (by decide), wr_stS, y2 87 (by decide), hD 87 (by omega)], fun j => ?_, ?_⟩
      · rw [wr_ne (by decide), wr_ne (by decide), y3 j, Nat.add_zero, hD 88 (by omega), hD 86 (by omega)]
      · show fM_text_b14 1000 (nI 0) D = _
        rw [y1, show 1000 - n = (999 - n) + 1 by omega, fM_text_b14, d85, n3, if_pos (by rw [n_le (by omega) (by omega)]; omega), c4, if_pos (ib_nI (by omega) (by omega)), ix_nI (by omega), wr_at (show 3 ≠ 6 by decide), wr_ne (show 85 ≠ 87 by decide), d85, c4]
        rfl
    have ne6 : ¬ M 85 3 = 6 := by rw [c4, show (6 : Int32) = nI 6 from rfl, n_eq (by omega) (by omega)]; exact h6c
    rcases res with ⟨hx, wf, rd⟩ | ⟨f, hf, hx, g1, g2, rd⟩
    · rw [if_pos hx]
      have q06 : C 0 6 = nI c := by rw [k2 0 (by omega) (by omega) (by omega) (by omega) (by omega)]; exact c3
      rw [q06, nI_1, wr_same, nI_pd (by omega), Nat.add_sub_cancel]
      obtain ⟨N1, m1, m2, m3, m4, m5, m6⟩ := mod (wr C 0 6 (nI (c + 1))) (fun a ha => by rw [wr_ne (by omega)]; exact k2 a (by omega) (by omega) (by omega) (by omega) (by omega))
      obtain ⟨N2, z1, z2, z3⟩ := rd N1 0 (by rw [m4, stS, if_pos rfl]) (fun i hi => by rw [m5, if_pos (by omega), Nat.add_sub_cancel_left]; exact (n4 i hi).1) (by omega)
      have p3 : N2 85 3 = nI c := by rw [z2.2 3 (by omega), m2 3 (by decide)]; exact c4
      have nx : ∀ a, a ≠ 86 → a ≠ 87 → a ≠ 85 → wr N2 85 3 (nI (c + 1)) a = wr C 0 6 (nI (c + 1)) a := fun a a1 a2 a3 => by rw [wr_ne a3, z2.1 a a3, m1 a a1 a2 a3]
      have n85 : ∀ j, (j < 20 ∨ (51 ≤ j ∧ j ≤ 54)) → j ≠ 6 → j ≠ 3 → wr N2 85 3 (nI (c + 1)) 85 j = M 85 j := fun j j1 j2 j3 => by rw [wr_at j3, z2.2 j (by omega), m2 j j2]
      have nC : ∀ a, a ≠ 86 → a ≠ 87 → a ≠ 85 → a ≠ 0 → a ≠ 40 → a ≠ 42 → a ≠ 43 → a ≠ 60 + 3 * c → a ≠ 61 + 3 * c → wr N2 85 3 (nI (c + 1)) a = M a := fun a a1 a2 a3 a4 a5 a6 a7 a8 a9 => by rw [nx a a1 a2 a3, wr_ne a4, k2 a a5 a6 a7 (by omega) (by omega)]
      refine ⟨nI c, _, wr N2 85 3 (nI (c + 1)), rfl, ?_, ?_⟩
      · rw [wr_ne (show 85 ≠ 0 by decide), k2 85 (by omega) (by omega) (by omega) (by omega) (by omega), if_neg ne6, m6, z1]
        simp only [Option.bind_some]
        rw [if_pos z3, p3, nI_1, wr_same, nI_pd (by omega), Nat.add_sub_cancel]
      · have b61 : wr N2 85 3 (nI (c + 1)) (60 + 3 * c) = C (59 + 3 * c + 1) := by rw [nx _ (by omega) (by omega) (by omega), wr_ne (by omega), show 59 + 3 * c + 1 = 60 + 3 * c by omega]
        have b62 : wr N2 85 3 (nI (c + 1)) (61 + 3 * c) = C (59 + 3 * c + 2) := by rw [nx _ (by omega) (by omega) (by omega), wr_ne (by omega), show 59 + 3 * c + 2 = 61 + 3 * c by omega]
        have b86 : ∀ j, wr N2 85 3 (nI (c + 1)) 86 j = if 160 * c ≤ j ∧ j < 160 * c + n then M 88 (j - 160 * c) else M 86 j := fun j => by rw [wr_ne (by decide), z2.1 86 (by decide), m5 j]
        have b87 : wr N2 85 3 (nI (c + 1)) 87 = stS (M 87) c (nI n) := by rw [wr_ne (by decide), z2.1 87 (by decide), m4]
        have b06 : wr N2 85 3 (nI (c + 1)) 0 6 = nI (c + 1) := by rw [nx 0 (by omega) (by omega) (by omega), wr_same]
        have b0 : ∀ j, j ≠ 6 → wr N2 85 3 (nI (c + 1)) 0 j = M 0 j := fun j hj => by rw [nx 0 (by omega) (by omega) (by omega), wr_at hj, k2 0 (by omega) (by omega) (by omega) (by omega) (by omega)]
        have b40 : wr N2 85 3 (nI (c + 1)) 40 1 = 0 := by rw [nx 40 (by omega) (by omega) (by omega), wr_ne (by decide), k1]
        have b36 : wr N2 85 3 (nI (c + 1)) 85 6 = 0 := by rw [wr_at (by decide), z2.2 6 (by omega), m3]
        have b33 : wr N2 85 3 (nI (c + 1)) 85 3 = nI (c + 1) := wr_same
        generalize wr N2 85 3 (nI (c + 1)) = R at *
        refine hR_intro (h1.same (by rw [nC 1 (by omega) (by omega) (by omega) (by omega) (by omega) (by omega) (by omega) (by omega) (by omega)]) (n85 7 (by omega) (by omega) (by omega))) (h2.same (by rw [nC 1 (by omega) (by omega) (by omega) (by omega) (by omega) (by omega) (by omega) (by omega) (by omega)]) (n85 11 (by omega) (by omega) (by omega)) (nC 2 (by omega) (by omega) (by omega) (by omega) (by omega) (by omega) (by omega) (by omega) (by omega)) (nC 3 (by omega) (by omega) (by omega) (by omega) (by omega) (by omega) (by omega) (by omega) (by omega)) (nC 90 (by omega) (by omega) (by omega) (by omega) (by omega) (by omega) (by omega) (by omega) (by omega)) (nC 91 (by omega) (by omega) (by omega) (by omega) (by omega) (by omega) (by omega) (by omega) (by omega))) (h3.same (nC 4 (by omega) (by omega) (by omega) (by omega) (by omega) (by omega) (by omega) (by omega) (by omega)) (nC 89 (by omega) (by omega) (by omega) (by omega) (by omega) (by omega) (by omega) (by omega) (by omega))) (h4.same (by rw [nC 1 (by omega) (by omega) (by omega) (by omega) (by omega) (by omega) (by omega) (by omega) (by omega)]) (n85 17 (by omega) (by omega) (by omega)) (fun x q1 q2 => nC x (by omega) (by omega) (by omega) (by omega) (by omega) (by omega) (by omega) (by omega) (by omega)) (nC 92 (by omega) (by omega) (by omega) (by omega) (by omega) (by omega) (by omega) (by omega) (by omega)) (nC 93 (by omega) (by omega) (by omega) (by omega) (by omega) (by omega) (by omega) (by omega) (by omega)) (nC 94 (by omega) (by omega) (by omega) (by omega) (by omega) (by omega) (by omega) (by omega) (by omega)) (nC 95 (by omega) (by omega) (by omega) (by omega) (by omega) (by omega) (by omega) (by omega) (by omega)) (nC 96 (by omega) (by omega) (by omega) (by omega) (by omega) (by omega) (by omega) (by omega) (by omega))) ⟨c + 1, r, by omega, by omega, b06, b33, by omega, by rw [nC 1 (by omega) (by omega) (by omega) (by omega) (by omega) (by omega) (by omega) (by omega) (by omega)]; exact r2, by rw [n85 4 (by omega) (by omega) (by omega)]; exact r3, fun t ht => ?_⟩ ⟨0, by omega, b40, b36, fun i hi => absurd hi (by omega)⟩ (h7.same (fun x q1 q2 => nC x (by omega) (by omega) (by omega) (by omega) (by omega) (by omega) (by omega) (by omega) (by omega)) (nC 109 (by omega) (by omega) (by omega) (by omega) (by omega) (by omega) (by omega) (by omega) (by omega)) (nC 110 (by omega) (by omega) (by omega) (by omega) (by omega) (by omega) (by omega) (by omega) (by omega)) (nC 111 (by omega) (by omega) (by omega) (by omega) (by omega) (by omega) (by omega) (by omega) (by omega)) (nC 112 (by omega) (by omega) (by omega) (by omega) (by omega) (by omega) (by omega) (by omega) (by omega))) (h8.same (b0 3 (by decide)) (fun x q1 q2 => nC x (by omega) (by omega) (by omega) (by omega) (by omega) (by omega) (by omega) (by omega) (by omega)) (fun j q1 q2 => n85 j (by omega) (by omega) (by omega)) (nC 107 (by omega) (by omega) (by omega) (by omega) (by omega) (by omega) (by omega) (by omega) (by omega)) (nC 108 (by omega) (by omega) (by omega) (by omega) (by omega) (by omega) (by omega) (by omega) (by omega)) (fun k _ _ => by rw [nC 92 (by omega) (by omega) (by omega) (by omega) (by omega) (by omega) (by omega) (by omega) (by omega)]) (by rw [nC 1 (by omega) (by omega) (by omega) (by omega) (by omega) (by omega) (by omega) (by omega) (by omega)]; exact Nat.le_refl _) (by rw [b06, c3, ix_nI (by omega), ix_nI (by omega)]; omega)) (h9.same (n85 18 (by omega) (by omega) (by omega)) (h9.2.same (by rw [nC 46 (by omega) (by omega) (by omega) (by omega) (by omega) (by omega) (by omega) (by omega) (by omega)]) (nC 47 (by omega) (by omega) (by omega) (by omega) (by omega) (by omega) (by omega) (by omega) (by omega))))
        by_cases htc : t = c
        · subst htc
          unfold TX TXm
          rw [b61, b62]
          refine ⟨wf, n, M 41, n1, by rw [b87, stS, if_pos rfl], fun i hi => ?_, rd⟩
          rw [b86, if_pos (by omega), Nat.add_sub_cancel_left]
          exact (n4 i hi).1
        · refine (ct t (by omega)).same (nC _ (by omega) (by omega) (by omega) (by omega) (by omega) (by omega) (by omega) (by omega) (by omega)) (nC _ (by omega) (by omega) (by omega) (by omega) (by omega) (by omega) (by omega) (by omega) (by omega)) (by rw [b87, stS, if_neg htc]) (fun i hi => ?_)
          rw [b86, if_neg (by omega)]
    · rw [hx, if_neg (nI_m1 (by omega))]
      obtain ⟨N1, m1, m2, m3, m4, m5, m6⟩ := mod C (fun a ha => k2 a (by omega) (by omega) (by omega) (by omega) (by omega))
      obtain ⟨v, N2, z1, z2, z3, z4⟩ := rd N1 0 (by rw [m4, stS, if_pos rfl]) (fun i hi => by rw [m5, if_pos (by omega), Nat.add_sub_cancel_left]; exact (n4 i hi).1) (by omega)
      have nx : ∀ a, a ≠ 86 → a ≠ 87 → a ≠ 85 → N2 a = C a := fun a a1 a2 a3 => by rw [z2.1 a a3, m1 a a1 a2 a3]
      have n85 : ∀ j, (j < 20 ∨ (51 ≤ j ∧ j ≤ 54)) → j ≠ 6 → N2 85 j = M 85 j := fun j j1 j2 => by rw [z2.2 j (by omega), m2 j j2]
      have nC : ∀ a, a ≠ 86 → a ≠ 87 → a ≠ 85 → a ≠ 40 → a ≠ 42 → a ≠ 43 → N2 a = M a := fun a a1 a2 a3 a5 a6 a7 => by
        rw [nx a a1 a2 a3]
        by_cases b1 : a = 59 + 3 * c + 1
        · rw [b1, g1]
        · by_cases b2 : a = 59 + 3 * c + 2
          · rw [b2, g2]
          · exact k2 a a5 a6 a7 b1 b2
      have b86 : ∀ j, N2 86 j = if 160 * c ≤ j ∧ j < 160 * c + n then M 88 (j - 160 * c) else M 86 j := fun j => by rw [z2.1 86 (by decide), m5 j]
      have b87 : N2 87 = stS (M 87) c (nI n) := by rw [z2.1 87 (by decide), m4]
      have b40 : N2 40 1 = 0 := by rw [nx 40 (by omega) (by omega) (by omega), k1]
      have b36 : N2 85 6 = 0 := by rw [z2.2 6 (by omega), m3]
      refine ⟨-100 - nI f, C, N2, rfl, ?_, ?_⟩
      · rw [k2 85 (by omega) (by omega) (by omega) (by omega) (by omega), if_neg ne6, m6, z1]
        simp only [Option.bind_some]
        rw [z3, if_neg (by decide), z4]
      · refine hR_intro (h1.same (by rw [nC 1 (by omega) (by omega) (by omega) (by omega) (by omega) (by omega)]) (n85 7 (by omega) (by omega))) (h2.same (by rw [nC 1 (by omega) (by omega) (by omega) (by omega) (by omega) (by omega)]) (n85 11 (by omega) (by omega)) (nC 2 (by omega) (by omega) (by omega) (by omega) (by omega) (by omega)) (nC 3 (by omega) (by omega) (by omega) (by omega) (by omega) (by omega)) (nC 90 (by omega) (by omega) (by omega) (by omega) (by omega) (by omega)) (nC 91 (by omega) (by omega) (by omega) (by omega) (by omega) (by omega))) (h3.same (nC 4 (by omega) (by omega) (by omega) (by omega) (by omega) (by omega)) (nC 89 (by omega) (by omega) (by omega) (by omega) (by omega) (by omega))) (h4.same (by rw [nC 1 (by omega) (by omega) (by omega) (by omega) (by omega) (by omega)]) (n85 17 (by omega) (by omega)) (fun x q1 q2 => nC x (by omega) (by omega) (by omega) (by omega) (by omega) (by omega)) (nC 92 (by omega) (by omega) (by omega) (by omega) (by omega) (by omega)) (nC 93 (by omega) (by omega) (by omega) (by omega) (by omega) (by omega)) (nC 94 (by omega) (by omega) (by omega) (by omega) (by omega) (by omega)) (nC 95 (by omega) (by omega) (by omega) (by omega) (by omega) (by omega)) (nC 96 (by omega) (by omega) (by omega) (by omega) (by omega) (by omega))) ⟨c, r, c1, c2, by rw [nC 0 (by omega) (by omega) (by omega) (by omega) (by omega) (by omega)]; exact c3, by rw [n85 3 (by omega) (by omega)]; exact c4, r1, by rw [nC 1 (by omega) (by omega) (by omega) (by omega) (by omega) (by omega)]; exact r2, by rw [n85 4 (by omega) (by omega)]; exact r3, fun t ht => ?_⟩ ⟨0, by omega, b40, b36, fun i hi => absurd hi (by omega)⟩ (h7.same (fun x q1 q2 => nC x (by omega) (by omega) (by omega) (by omega) (by omega) (by omega)) (nC 109 (by omega) (by omega) (by omega) (by omega) (by omega) (by omega)) (nC 110 (by omega) (by omega) (by omega) (by omega) (by omega) (by omega)) (nC 111 (by omega) (by omega) (by omega) (by omega) (by omega) (by omega)) (nC 112 (by omega) (by omega) (by omega) (by omega) (by omega) (by omega))) (h8.same (by rw [nC 0 (by omega) (by omega) (by omega) (by omega) (by omega) (by omega)]) (fun x q1 q2 => nC x (by omega) (by omega) (by omega) (by omega) (by omega) (by omega)) (fun j q1 q2 => n85 j (by omega) (by omega)) (nC 107 (by omega) (by omega) (by omega) (by omega) (by omega) (by omega)) (nC 108 (by omega) (by omega) (by omega) (by omega) (by omega) (by omega)) (fun k _ _ => by rw [nC 92 (by omega) (by omega) (by omega) (by omega) (by omega) (by omega)]) (by rw [nC 1 (by omega) (by omega) (by omega) (by omega) (by omega) (by omega)]; exact Nat.le_refl _) (by rw [nC 0 (by omega) (by omega) (by omega) (by omega) (by omega) (by omega)]; exact Nat.le_refl _)) (h9.same (n85 18 (by omega) (by omega)) (h9.2.same (by rw [nC 46 (by omega) (by omega) (by omega) (by omega) (by omega) (by omega)]) (nC 47 (by omega) (by omega) (by omega) (by omega) (by omega) (by omega))))
        refine (ct t ht).same (nC _ (by omega) (by omega) (by omega) (by omega) (by omega) (by omega)) (nC _ (by omega) (by omega) (by omega) (by omega) (by omega) (by omega)) (by rw [b87, stS, if_neg (by omega)]) (fun i hi => ?_)
        rw [b86, if_neg (by omega)]
end
section
/-! 47: the master, counts, kinds -/
/-- both know where he is -/
theorem mst_both {M : Mem} (hR : Rel M) : ∃ g : Int32 → Int32, (∀ (N : Mem) (t : Int32), (∀ j, j < 4 → N 1 j = M 1 j) → N 2 = M 2 → N 3 = M 3 → fH_masterIn 1 t N = some (g t, N)) ∧ (∀ (N : Mem) (t : Int32), N 85 11 = M 85 11 → N 90 = M 90 → N 91 = M 91 → 0 ≤ t.toInt → fM_masterIn t N = some (g t, N)) ∧ ∀ t, 0 ≤ t.toInt → g t = -1 ∨ ib (g t) 8 := by
  obtain ⟨n, n1, n2, n3, n4⟩ := hR.2.1
  have ok : okMin n (M 91) := ⟨n1, fun i hi => by rw [(n4 i hi).2.2.2]; exact (n4 i hi).2.2.1⟩
  refine ⟨mst n (M 2) (M 3), fun N t a b c => ?_, fun N t a b c h => ?_, fun t ht => ?_⟩
  · have := fH_masterIn_eq (h := 1) (n := n) (M := N) t (by rw [a 1 (by omega)]; exact n2) n1
    rw [this, show N (1 + 1) = M 2 from b, show N (1 + 2) = M 3 from c]
  · rw [fM_masterIn_eq t h (by rw [a]; exact n3) (by rw [c]; exact ok), b, c]
    rw [mst_congr (r' := M 2) (m' := M 3) t (fun j hj => ⟨(n4 j hj).2.1, (n4 j hj).2.2.2⟩)]
  · unfold mst
    by_cases hs : 0 < sumF (M 3) n 0 0
    · rw [if_pos hs]
      have key : ∀ (c i : Nat) (l : Int32), i + c ≤ n → scanF (M 2) (M 3) c i l = -1 ∨ ib (scanF (M 2) (M 3) c i l) 8 := by
        intro c
        induction c with
        | zero => intro i l _; exact Or.inl rfl
        | succ c ih =>
          intro i l h
          rw [scanF]
          by_cases hm : M 3 i ≤ l
          · rw [if_pos hm]; exact ih (i + 1) _ (by omega)
          · rw [if_neg hm]; exact Or.inr (n4 i (by omega)).1
      exact key n 0 _ (by omega)
    · rw [if_neg hs]; exact Or.inl rfl
theorem op_master (a : Int32) : Op (fN_master a) (fM_master a) := by
  intro M hR
  obtain ⟨g, g1, g2, -⟩ := mst_both hR
  unfold fN_master fM_master
  simp only [fN_w100, fM_i100, Option.bind_some, bz_0]
  by_cases h : ib a 100
  · rw [if_neg (nn h), g1 M a (fun _ _ => rfl) rfl rfl]
    refine ⟨g a, M, M, rfl, ?_, hR⟩
    rw [if_neg (nn h), g2 M a rfl rfl rfl h.1]
    rfl
  · exact ⟨-2, M, M, by rw [if_pos h], by rw [if_pos h], hR⟩
theorem free_both {M : Mem} {g : Int32 → Int32} (g1 : ∀ t, fH_masterIn 1 t M = some (g t, M)) (g2 : ∀ t, 0 ≤ t.toInt → fM_masterIn t M = some (g t, M)) (a : Int32) (t : Nat) : ∀ (c i z z' : Nat), t + i + c = 100 → c < z → c < z' → ∃ v, fN_free_b23 a (nI t) z (nI (t + i)) M = some (v, M) ∧ fM_free_b24 a (nI t) z' (nI i) M = some (v, M) := by
  intro c
  induction c with
  | zero =>
    intro i z z' h hz hz'
    obtain ⟨z, rfl⟩ := Nat.exists_eq_succ_of_ne_zero (show z ≠ 0 by omega)
    obtain ⟨z', rfl⟩ := Nat.exists_eq_succ_of_ne_zero (show z' ≠ 0 by omega)
    refine ⟨nI i, ?_, ?_⟩
    · rw [fN_free_b23, if_pos (by rw [show (100 : Int32) = nI 100 from rfl, n_le (by omega) (by omega)]; omega), fN_free_b47, nI_subm (by omega), Nat.add_sub_cancel_left]
    · rw [fM_free_b24, nI_add, if_pos (by rw [show (100 : Int32) = nI 100 from rfl, n_le (by omega) (by omega)]; omega), fM_free_b49]
  | succ c ih =>
    intro i z z' h hz hz'
    obtain ⟨z, rfl⟩ := Nat.exists_eq_succ_of_ne_zero (show z ≠ 0 by omega)
    obtain ⟨z', rfl⟩ := Nat.exists_eq_succ_of_ne_zero (show z' ≠ 0 by omega)
    rw [fN_free_b23, if_neg (by rw [show (100 : Int32) = nI 100 from rfl, n_le (by omega) (by omega)]; omega), g1, fM_free_b24, nI_add, if_neg (by rw [show (100 : Int32) = nI 100 from rfl, n_le (by omega) (by omega)]; omega), g2 _ (by rw [nI_t (by omega)]; omega)]
    simp only [Option.bind_some]
    by_cases he : g (nI (t + i)) = a
    · rw [if_pos he, if_pos he, fN_free_b47, fM_free_b49, nI_subm (by omega), Nat.add_sub_cancel_left]
      exact ⟨_, rfl, rfl⟩
    · rw [if_neg he, if_neg he, nI_1, nI_1]
      exact ih (i + 1) z z' (by omega) (by omega) (by omega)
theorem op_free (a b : Int32) : Op (fN_free a b) (fM_free a b) := by
  intro M hR
  obtain ⟨g, g1, g2, -⟩ := mst_both hR
  unfold fN_free fM_free
  simp only [fN_w8, fN_w100, fM_r8, fM_i100, Option.bind_some, bz_0]
  by_cases h1 : ib a 8
  · rw [if_neg (nn h1)]
    by_cases h2 : ib b 100
    · rw [if_neg (nn h2)]
      obtain ⟨t, ht, rfl⟩ := ib_ex h2
      obtain ⟨v, e1, e2⟩ := free_both (fun t => g1 M t (fun _ _ => rfl) rfl rfl) (fun t h => g2 M t rfl rfl rfl h) a t (100 - t) 0 1000 1000 (by omega) (by omega) (by omega)
      rw [Nat.add_zero] at e1
      rw [e1]
      refine ⟨v, M, M, rfl, ?_, hR⟩
      rw [if_neg (nn h1), if_neg (nn h2), show (0 : Int32) = nI 0 from rfl, e2]
    · exact ⟨-2, M, M, by rw [if_pos h2], by rw [if_neg (nn h1), if_pos h2], hR⟩
  · exact ⟨-2, M, M, by rw [if_pos h1], by rw [if_pos h1], hR⟩
/-- the most and its first minute, on from t -/
def lonF (g : Int32 → Int32) (a : Int32) : Nat → Nat → Int32 → Int32 → Int32 → Int32 × Int32
  | 0, _, most, first, _ => (most, first)
  | c + 1, t, most, first, run =>
    let r := if g (nI t) = a then 0 else run + 1
    if r ≤ most then lonF g a c (t + 1) most first r else lonF g a c (t + 1) r (nI t - r + 1) r
theorem fN_lon_eq {M : Mem} {g : Int32 → Int32} (g1 : ∀ t, fH_masterIn 1 t M = some (g t, M)) (a w : Int32) : ∀ (c t z : Nat) (most first run : Int32), t + c = 100 → c < z → fN_longestFree_b11 a w z most first run (nI t) M = some (if w = 0 then (lonF g a c t most first run).1 else (lonF g a c t most first run).2, M) := by
  intro c
  induction c with
  | zero =>
    intro t z most first run h hz
    obtain ⟨z, rfl⟩ := Nat.exists_eq_succ_of_ne_zero (show z ≠ 0 by omega)
    rw [fN_longestFree_b11, if_pos (by rw [show (100 : Int32) = nI 100 from rfl, n_le (by omega) (by omega)]; omega), lonF]
    by_cases hw : w = 0
    · rw [if_pos hw, if_pos hw]
    · rw [if_neg hw, if_neg hw]
  | succ c ih =>
    intro t z most first run h hz
    obtain ⟨z, rfl⟩ := Nat.exists_eq_succ_of_ne_zero (show z ≠ 0 by omega)
    rw [fN_longestFree_b11, if_neg (by rw [show (100 : Int32) = nI 100 from rfl, n_le (by omega) (by omega)]; omega), g1]
    simp only [Option.bind_some]
    unfold fN_longestFree_b39 fN_longestFree_b59
    rw [lonF, nI_1]
    by_cases he : g (nI t) = a
    · rw [if_pos he, if_pos he]
      by_cases hl : (0 : Int32) ≤ most
      · rw [if_pos hl, if_pos hl]; exact ih (t + 1) z _ _ _ (by omega) (by omega)
      · rw [if_neg hl, if_neg hl]; exact ih (t + 1) z _ _ _ (by omega) (by omega)
    · rw [if_neg he, if_neg he]
      by_cases hl : run + 1 ≤ most
      · rw [if_pos hl, if_pos hl]; exact ih (t + 1) z _ _ _ (by omega) (by omega)
      · rw [if_neg hl, if_neg hl]; exact ih (t + 1) z _ _ _ (by omega) (by omega)
theorem fM_lon_eq {M : Mem} {g : Int32 → Int32} (g2 : ∀ (x : Int32) t, 0 ≤ t.toInt → fM_masterIn t (wr M 85 20 x) = some (g t, wr M 85 20 x)) (a : Int32) : ∀ (c t z : Nat) (most first run : Int32), t + c = 100 → c < z → fM_longestOf_b12 a z most run (nI t) (wr M 85 20 first) = some ((lonF g a c t most first run).1, wr M 85 20 (lonF g a c t most first run).2) := by
  intro c
  induction c with
  | zero =>
    intro t z most first run h hz
    obtain ⟨z, rfl⟩ := Nat.exists_eq_succ_of_ne_zero (show z ≠ 0 by omega)
    rw [fM_longestOf_b12, if_pos (by rw [show (100 : Int32) = nI 100 from rfl, n_le (by omega) (by omega)]; omega), lonF]
  | succ c ih =>
    intro t z most first run h hz
    obtain ⟨z, rfl⟩ := Nat.exists_eq_succ_of_ne_zero (show z ≠ 0 by omega)
    rw [fM_longestOf_b12, if_neg (by rw [show (100 : Int32) = nI 100 from rfl, n_le (by omega) (by omega)]; omega), g2 _ _ (by rw [nI_t (by omega)]; omega)]
    simp only [Option.bind_some]
    unfold fM_longestOf_b36 fM_longestOf_b54
    rw [lonF, nI_1, wr_wr, wr_wr]
    by_cases he : g (nI t) = a
    · rw [if_pos he, if_pos he]
      by_cases hl : (0 : Int32) ≤ most
      · rw [if_pos hl, if_pos hl]; exact ih (t + 1) z _ _ _ (by omega) (by omega)
      · rw [if_neg hl, if_neg hl]; exact ih (t + 1) z _ _ _ (by omega) (by omega)
    · rw [if_neg he, if_neg he]
      by_cases hl : run + 1 ≤ most
      · rw [if_pos hl, if_pos hl]; exact ih (t + 1) z _ _ _ (by omega) (by omega)
      · rw [if_neg hl, if_neg hl]; exact ih (t + 1) z _ _ _ (by omega) (by omega)
theorem Same.p20 {M : Mem} {x : Int32} : Same M (wr M 85 20 x) := ⟨fun a h => wr_ne (by omega), ⟨by rw [wr_ne (by decide)], by rw [wr_ne (by decide)]⟩, fun j _ => by rw [wr_ne (by decide)], by rw [wr_ne (by decide)], fun j _ => wr_at (by omega)⟩
theorem lon_both {M : Mem} (hR : Rel M) : ∃ L : Int32 → Int32 × Int32, (∀ a w, fN_longestFree a w M = some (if w = 0 then (L a).1 else (L a).2, M)) ∧ ∀ a x, fM_longestOf a (wr M 85 20 x) = some ((L a).1, wr M 85 20 (L a).2) := by
  obtain ⟨g, g1, g2, -⟩ := mst_both hR
  refine ⟨fun a => lonF g a 100 0 0 (-1) 0, fun a w => ?_, fun a x => ?_⟩
  · exact fN_lon_eq (fun t => g1 M t (fun _ _ => rfl) rfl rfl) a w 100 0 1000 0 (-1) 0 (by omega) (by omega)
  · unfold fM_longestOf
    rw [wr_wr]
    exact fM_lon_eq (fun x t h => g2 _ t (by rw [wr_at (by decide)]) (by rw [wr_ne (by decide)]) (by rw [wr_ne (by decide)]) h) a 100 0 1000 0 (-1) 0 (by omega) (by omega)
theorem Rel.p20 {M : Mem} (hR : Rel M) (x : Int32) : Rel (wr M 85 20 x) := hR.same Same.p20 (hR.2.2.2.2.2.2.2.2.2.same (by rw [wr_ne (by decide)]) (wr_ne (by decide)))
theorem op_longest (a w : Int32) : Op (fN_longest a w) (fM_longest a w) := by
  intro M hR
  obtain ⟨L, l1, l2⟩ := lon_both hR
  unfold fN_longest fM_longest
  simp only [fN_w8, fN_w2, fM_r8, fM_i2, Option.bind_some, bz_0]
  by_cases h1 : ib a 8
  · rw [if_neg (nn h1)]
    by_cases h2 : ib w 2
    · rw [if_neg (nn h2), l1]
      have e := l2 a (M 85 20)
      rw [wr_self] at e
      refine ⟨_, M, _, rfl, ?_, hR.p20 (L a).2⟩
      rw [if_neg (nn h1), if_neg (nn h2), e]
      simp only [Option.bind_some]
      rw [wr_same]
      by_cases hw : w = 0
      · rw [if_pos hw, if_pos hw]
      · rw [if_neg hw, if_neg hw]
    · exact ⟨-2, M, M, by rw [if_pos h2], by rw [if_neg (nn h1), if_pos h2], hR⟩
  · exact ⟨-2, M, M, by rw [if_pos h1], by rw [if_pos h1], hR⟩
theorem or_sh0 (x y : Int32) : x ||| ((0 : Int32) <<< y) = x := by
  have : (0 : Int32) <<< y = 0 := by
    apply Int32.toBitVec_inj.mp
    simp
  rw [this, Int32.or_zero]
theorem op_never (k : Int32) : Op (fN_never k) (fM_never k) := by
  intro M hR
  obtain ⟨L, l1, l2⟩ := lon_both hR
  have loop : ∀ (c r z z' : Nat) (s x : Int32), r + c = 8 → c < z → c < z' → ∃ v y, fN_never_b17 k z s (nI r) M = some (v, M) ∧ fM_never_b19 k z' s (nI r) (wr M 85 20 x) = some (v, wr M 85 20 y) := by
    intro c
    induction c with
    | zero =>
      intro r z z' s x h hz hz'
      obtain ⟨z, rfl⟩ := Nat.exists_eq_succ_of_ne_zero (show z ≠ 0 by omega)
      obtain ⟨z', rfl⟩ := Nat.exists_eq_succ_of_ne_zero (show z' ≠ 0 by omega)
      refine ⟨s, x, ?_, ?_⟩
      · rw [fN_never_b17, if_pos (by rw [show (8 : Int32) = nI 8 from rfl, n_le (by omega) (by omega)]; omega)]
      · rw [fM_never_b19, if_pos (by rw [show (8 : Int32) = nI 8 from rfl, n_le (by omega) (by omega)]; omega)]
    | succ c ih =>
      intro r z z' s x h hz hz'
      obtain ⟨z, rfl⟩ := Nat.exists_eq_succ_of_ne_zero (show z ≠ 0 by omega)
      obtain ⟨z', rfl⟩ := Nat.exists_eq_succ_of_ne_zero (show z' ≠ 0 by omega)
      rw [fN_never_b17, if_neg (by rw [show (8 : Int32) = nI 8 from rfl, n_le (by omega) (by omega)]; omega), l1, if_pos rfl, fM_never_b19, if_neg (by rw [show (8 : Int32) = nI 8 from rfl, n_le (by omega) (by omega)]; omega), l2]
      simp only [Option.bind_some]
      unfold fN_never_b39 fM_never_b40
      rw [nI_1]
      by_cases hk : k ≤ (L (nI r)).1
      · rw [if_pos hk, if_pos hk, or_sh0]
        exact ih (r + 1) z z' s _ (by omega) (by omega) (by omega)
      · rw [if_neg hk, if_neg hk]
        exact ih (r + 1) z z' _ _ (by omega) (by omega) (by omega)
  unfold fN_never fM_never
  simp only [fM_i101, Option.bind_some, bz_0]
  have t0 : (0 : Int32).toInt = 0 := rfl
  have t100 : (100 : Int32).toInt = 100 := rfl
  by_cases h1 : ib k 101
  · obtain ⟨v, y, e1, e2⟩ := loop 8 0 1000 1000 0 (M 85 20) (by omega) (by omega) (by omega)
    rw [wr_self] at e2
    rw [if_neg (by rw [i_lt, t0]; have := h1.1; omega), if_pos (by rw [i_le, t100]; have := h1.2; omega)]
    refine ⟨v, M, wr M 85 20 y, e1, ?_, hR.p20 y⟩
    rw [if_neg (nn h1)]
    exact e2
  · refine ⟨-2, M, M, ?_, by rw [if_pos h1], hR⟩
    by_cases h2 : k < 0
    · rw [if_pos h2]
    · rw [if_neg h2, if_neg (by intro z; rw [i_le, t100] at z; rw [i_lt, t0] at h2; exact h1 ⟨by omega, by omega⟩)]
theorem fM_count_b89_eq (M : Mem) : fM_count_b89 1000 0 0 M = some (sumF (M 89) 8 0 0, M) := by
  have loop : ∀ (c k z : Nat) (acc : Int32), k + c = 8 → c < z → fM_count_b89 z acc (nI k) M = some (sumF (M 89) c k acc, M) := by
    intro c
    induction c with
    | zero =>
      intro k z acc hk hz
      obtain ⟨z, rfl⟩ := Nat.exists_eq_succ_of_ne_zero (show z ≠ 0 by omega)
      rw [fM_count_b89, if_pos (by rw [show (8 : Int32) = nI 8 from rfl, n_le (by omega) (by omega)]; omega), sumF]
    | succ c ih =>
      intro k z acc hk hz
      obtain ⟨z, rfl⟩ := Nat.exists_eq_succ_of_ne_zero (show z ≠ 0 by omega)
      rw [fM_count_b89, if_neg (by rw [show (8 : Int32) = nI 8 from rfl, n_le (by omega) (by omega)]; omega), if_pos (ib_nI (by omega) (by omega)), ix_nI (by omega), nI_1, sumF]
      exact ih (k + 1) z _ (by omega) (by omega)
  exact loop 8 0 1000 0 (by omega) (by omega)
theorem op_count (w : Int32) : Op (fN_count w) (fM_count w) := by
  intro M hR
  obtain ⟨⟨s, s1, s2, s3⟩, ⟨n, n1, n2, n3, n4⟩, h3, ⟨m, m1, m2, m3, m4⟩, ⟨c, r, c1, c2, c3, c4, r1, r2, r3, ct⟩, ⟨p, p1, p2, p3, p4⟩, h7, h8, h9⟩ := id hR
  unfold fM_count
  simp only [fM_i7, Option.bind_some, bz_0]
  by_cases g : ib w 7
  · obtain ⟨q, hq, rfl⟩ := ib_ex g
    rcases (by omega : q = 0 ∨ q = 1 ∨ q = 2 ∨ q = 3 ∨ q = 4 ∨ q = 5 ∨ q = 6) with rfl | rfl | rfl | rfl | rfl | rfl | rfl
    · exact ⟨M 1 2, M, M, rfl, by rw [if_neg (nn g), if_neg (by decide), if_pos (show nI 0 = 0 from rfl), m2, m3], hR⟩
    · exact ⟨M 1 1, M, M, rfl, by rw [if_neg (nn g), if_neg (by decide), if_neg (show ¬ nI 1 = 0 by decide), if_pos (show nI 1 = 1 from rfl), n2, n3], hR⟩
    · exact ⟨M 1 0, M, M, rfl, by rw [if_neg (nn g), if_neg (by decide), if_neg (show ¬ nI 2 = 0 by decide), if_neg (show ¬ nI 2 = 1 by decide), if_pos (show nI 2 = 2 from rfl), s2, s3], hR⟩
    · exact ⟨M 0 6, M, M, rfl, by rw [if_neg (nn g), if_neg (by decide), if_neg (show ¬ nI 3 = 0 by decide), if_neg (show ¬ nI 3 = 1 by decide), if_neg (show ¬ nI 3 = 2 by decide), if_pos (show nI 3 = 3 from rfl), c3, c4], hR⟩
    · exact ⟨M 40 1, M, M, rfl, by rw [if_neg (nn g), if_neg (by decide), if_neg (show ¬ nI 4 = 0 by decide), if_neg (show ¬ nI 4 = 1 by decide), if_neg (show ¬ nI 4 = 2 by decide), if_neg (show ¬ nI 4 = 3 by decide), if_pos (show nI 4 = 4 from rfl), p2, p3], hR⟩
    · exact ⟨M 1 3, M, M, rfl, by rw [if_neg (nn g), if_neg (by decide), if_neg (show ¬ nI 5 = 0 by decide), if_neg (show ¬ nI 5 = 1 by decide), if_neg (show ¬ nI 5 = 2 by decide), if_neg (show ¬ nI 5 = 3 by decide), if_neg (show ¬ nI 5 = 4 by decide), r2, r3], hR⟩
    · refine ⟨sumF (M 4) 8 0 0, M, M, ?_, ?_, hR⟩
      · have e : fN_count (nI 6) M = (fN_sum 4 M).bind fun w7 => some (w7.1, w7.2) := rfl
        rw [e, fN_sum_eq]
        rfl
      · rw [if_neg (nn g), if_pos (by decide), fM_count_b89_eq, sumF_congr (g := M 89) (g' := M 4) 8 0 0 (fun j _ h => (h3 j (by omega)).2)]
  · have ne : ∀ k : Nat, k < 7 → w ≠ nI k := fun k hk z => g (by rw [z]; exact ib_nI hk (by omega))
    refine ⟨-2, M, M, ?_, by rw [if_pos g], hR⟩
    unfold fN_count
    rw [if_neg (show ¬ w = 0 from ne 0 (by omega)), if_neg (show ¬ w = 1 from ne 1 (by omega)), if_neg (show ¬ w = 2 from ne 2 (by omega)), if_neg (show ¬ w = 3 from ne 3 (by omega)), if_neg (show ¬ w = 4 from ne 4 (by omega)), if_neg (show ¬ w = 5 from ne 5 (by omega)), if_neg (show ¬ w = 6 from ne 6 (by omega))]
/-- whether one of kind x is of kind k -/
def tkB (x k : Nat) : Bool := x == k || (k == 0 && x < 6) || (x == 3 && k == 1) || (x == 4 && k == 2)
theorem kind_C : ∀ x, x < 6 → ∀ k, k < 6 → ∀ M : Mem, fA_isOfKind_b7 (nI k) 1000 (nI x) 0 M = some (if tkB x k = true then 1 else 0, M) := by
  intro x hx k hk M
  rcases (by omega : x = 0 ∨ x = 1 ∨ x = 2 ∨ x = 3 ∨ x = 4 ∨ x = 5) with rfl | rfl | rfl | rfl | rfl | rfl <;> rcases (by omega : k = 0 ∨ k = 1 ∨ k = 2 ∨ k = 3 ∨ k = 4 ∨ k = 5) with rfl | rfl | rfl | rfl | rfl | rfl <;> rfl
theorem kind_M : ∀ x, x < 6 → ∀ k, k < 6 → ∀ (a : Int32) (M : Mem), fM_taken_b33 a (nI k) 1000 (nI x) M = if tkB x k = true then (if ib a 4 then some (M 93 (ix a), M) else none) else some (-13, M) := by
  intro x hx k hk a M
  rcases (by omega : x = 0 ∨ x = 1 ∨ x = 2 ∨ x = 3 ∨ x = 4 ∨ x = 5) with rfl | rfl | rfl | rfl | rfl | rfl <;> rcases (by omega : k = 0 ∨ k = 1 ∨ k = 2 ∨ k = 3 ∨ k = 4 ∨ k = 5) with rfl | rfl | rfl | rfl | rfl | rfl <;> rfl
theorem op_taken (a k : Int32) : Op (fN_taken a k) (fM_taken a k) := by
  intro M hR
  obtain ⟨m, m1, m2, m3, m4⟩ := hR.2.2.2.1
  unfold fN_taken fM_taken fA_isOfKind
  simp only [fN_w6, fM_i6, m2, fN_w _ m _ (show m < 2147483648 by omega), Option.bind_some, bz_0]
  by_cases g1 : ib k 6
  · rw [if_neg (nn g1)]
    by_cases g2 : ib a m
    · rw [if_neg (nn g2), if_pos (ib_mono g2 m1)]
      obtain ⟨q, hq, rfl⟩ := ib_ex g2
      obtain ⟨y, hy, rfl⟩ := ib_ex g1
      rw [ix_nI (by omega)]
      obtain ⟨⟨d1, d1'⟩, ⟨d2, d2'⟩, -⟩ := m4 q hq
      obtain ⟨x, hx, ex⟩ := ib_ex d1
      rw [ex, kind_C x hx y hy]
      simp only [Option.bind_some]
      have e := kind_M x hx y hy (nI q) M
      by_cases ht : tkB x y = true
      · rw [if_pos ht] at e
        rw [if_pos ht, if_neg (by decide), if_pos (ib_mono g2 m1)]
        refine ⟨_, M, M, rfl, ?_, hR⟩
        rw [if_neg (nn g1), fM_mm _ _ m1 m3]
        simp only [Option.bind_some, bz_0]
        rw [if_neg (nn g2), if_pos (ib_mono g2 m1), d1', ex, e, if_pos (ib_mono g2 m1), ix_nI (by omega), d2']
      · rw [if_neg ht] at e
        rw [if_neg ht, if_pos rfl]
        refine ⟨_, M, M, rfl, ?_, hR⟩
        rw [if_neg (nn g1), fM_mm _ _ m1 m3]
        simp only [Option.bind_some, bz_0]
        rw [if_neg (nn g2), if_pos (ib_mono g2 m1), d1', ex, e]
    · refine ⟨-11, M, M, by rw [if_pos g2], ?_, hR⟩
      rw [if_neg (nn g1), fM_mm _ _ m1 m3]
      simp only [Option.bind_some, bz_0]
      rw [if_pos g2]
  · exact ⟨-2, M, M, by rw [if_pos g1], by rw [if_pos g1], hR⟩
end
section
/-! 48: mornings -/
theorem MO0.hi {V M N : Mem} {a : Nat} {tl : Tell} (v : MO0 V a tl M) (k : ∀ x, 85 ≤ x → N x = M x) : MO0 V a tl N := by
  obtain ⟨v1, v2, v3⟩ := v
  refine ⟨v1, ?_, by rw [k 85 (by omega), k 86 (by omega), k 87 (by omega)]; exact v3⟩
  unfold MV
  rw [k 85 (by omega), k 89 (by omega), k 90 (by omega), k 91 (by omega), k 92 (by omega), k 93 (by omega), k 94 (by omega), k 95 (by omega), k 96 (by omega)]
  exact v2
theorem KeepD.hi {M N : Mem} (k : KeepD M N) : ∀ x, 85 ≤ x → N x = M x := fun x h => k x (by omega)
theorem CV.aim {V C S : Mem} {h : Nat} {tl : Tell} (c : CV h V tl C) (dk : DOK V C) (e : DEq V S C) {k : Nat} (hk : k < vM V) : fA_roomListed (h + 5 + 2 * k) (C 53 k) C = some (aimS V S k, C) := by
  rw [aim_eq c dk hk]
  unfold aimS
  rw [(e.1 k hk).2.2.2.1]
/-- a morning run by both -/
theorem run_both {M : Mem} {n : Nat} (hR : Rel M) (hn : n ≤ 100) : ∃ (V : Mem) (tl : Tell) (C D : Mem), V = viewC 1 M ∧ VOK V ∧ fD_run 1 (nI n) M = some C ∧ fM_livesAll (nI n) C = some D ∧ KeepD M C ∧ KeepL C D ∧ Rel D ∧ CV 1 V tl C ∧ DOK V C ∧ DOK V (dayS V tl n) ∧ DEq V (dayS V tl n) C ∧ MV V 4 D ∧ DM V 4 (dayS V tl n) D := by
  obtain ⟨tl, hv, mo, -⟩ := hR.view
  obtain ⟨C, e1, c1, hv1, k1, d1, q1⟩ := fD_run_eq hn hv
  have mo1 := mo.hi k1.hi
  obtain ⟨D, e2, k2, dm⟩ := fM_livesAll_eq hn mo1
  exact ⟨_, tl, C, D, rfl, hv.2.2.1, e1, e2, k1, k2, (hR.same k1.s hv1.2.2.2.2.2).same k2.s (k2.lw hv1.2.2.2.2.2), c1, d1, dayS_DOK hv.2.2.1 n, q1, mo1.2.1.keepL k2, dm⟩
theorem fD_dear_eq {V S C : Mem} (e : DEq V S C) : fD_dear C = some (sumF (S 56) 8 0 0 + S 45 13, C) := by
  unfold fD_dear
  rw [fN_sum_eq]
  simp only [Option.bind_some]
  rw [e.2.2.1, sumF_congr (g := S 56) (g' := C 56) 8 0 0 (fun j _ h => e.2.1 j (by omega))]
abbrev ASK (m : Nat) (a : Int32) : Prop := ib a 4 ∨ ((10 ≤ a.toInt ∧ a.toInt < 50) ∧ ix a % 10 < m) ∨ (50 ≤ a.toInt ∧ a.toInt < 58)
theorem rem10 {a : Int32} (h : 0 ≤ a.toInt) : a - a / 10 * 10 = nI (ix a % 10) := by
  have := rem_nI (t := a) (R := 10) (by decide) h
  exact this
theorem div10 {a : Int32} (h : 0 ≤ a.toInt) : a / 10 = nI (ix a / 10) := by
  have h1 := tI_lt a
  have := pk_div (a := ix a) (d := 10) (by unfold ix; omega) (by omega) (by omega)
  rw [nI_ix h] at this
  exact this
theorem asked_eq {m : Nat} {M : Mem} (hm : m ≤ 4) (em : M 1 2 = nI m) (a : Int32) : fN_isAskedOfMorning a M = some (bz (ASK m a), M) := by
  have t10 : (10 : Int32).toInt = 10 := rfl
  have t50 : (50 : Int32).toInt = 50 := rfl
  have b32 : (¬ (10 ≤ a.toInt ∧ a.toInt < 50)) → fN_isAskedOfMorning_b32 a M = some (bz (ASK m a), M) := by
    intro hno
    unfold fN_isAskedOfMorning_b32 fN_isAskedOfMorning_b52
    simp only [fN_w4, fN_w8, Option.bind_some, bz_0]
    by_cases h4 : ib a 4
    · rw [if_neg (nn h4), bz, if_pos (Or.inl h4)]
    · rw [if_pos h4]
      have e : ib (a - 50) 8 ↔ 50 ≤ a.toInt ∧ a.toInt < 58 := by rw [show (50 : Int32) = nI 50 from rfl, sub_ib (by omega)]; omega
      by_cases h8 : ib (a - 50) 8
      · rw [if_neg (nn h8), bz, if_pos (Or.inr (Or.inr (e.mp h8)))]
      · rw [if_pos h8, bz, if_neg (by rintro (z | z | z); exact h4 z; exact hno z.1; exact h8 (e.mpr z))]
  unfold fN_isAskedOfMorning
  by_cases h1 : a < 10
  · rw [if_pos h1, b32 (by rw [i_lt, t10] at h1; omega)]
  · rw [if_neg h1]
    by_cases h2 : (50 : Int32) ≤ a
    · rw [if_pos h2, b32 (by rw [i_le, t50] at h2; omega)]
    · rw [i_lt, t10] at h1
      rw [i_le, t50] at h2
      have hmod := Nat.mod_lt (ix a) (show 10 > 0 by omega)
      rw [if_neg (by rw [i_le, t50]; exact h2), rem10 (by omega), em]
      by_cases h3 : ix a % 10 < m
      · rw [if_neg (by rw [n_le (by omega) (by omega)]; omega), bz, if_pos (Or.inr (Or.inl ⟨by omega, h3⟩))]
      · rw [if_pos (by rw [n_le (by omega) (by omega)]; omega), bz, if_neg]
        rintro (z | z | z)
        · have := z.2; omega
        · exact h3 z.2
        · omega
theorem fM_morning_eq {m : Nat} {N : Mem} (hm : m ≤ 4) (em : N 85 17 = nI m) (n a : Int32) : fM_morning n a N = if ib n 101 then (if ASK m a then fM_morning_b66 n a N else some (-2, N)) else some (-2, N) := by
  unfold fM_morning
  simp only [fM_i101, fM_i4, Option.bind_some, bz_0]
  by_cases h1 : ib n 101
  · rw [if_neg (nn h1), if_pos h1]
    by_cases h4 : ib a 4
    · rw [if_neg (nn h4), if_pos (show ASK m a from Or.inl h4)]
    · rw [if_pos h4, fM_iv a 10 49 10 49 _ rfl rfl]
      simp only [Option.bind_some, bz_0]
      have b49 : (¬ ((10 ≤ a.toInt ∧ a.toInt < 50) ∧ ix a % 10 < m)) → fM_morning_b49 n a N = if ASK m a then fM_morning_b66 n a N else some (-2, N) := by
        intro hno
        unfold fM_morning_b49
        rw [fM_iv a 50 57 50 57 _ rfl rfl]
        simp only [Option.bind_some, bz_0]
        by_cases h5 : 50 ≤ a.toInt ∧ a.toInt ≤ 57
        · rw [if_neg (nn h5), if_pos (show ASK m a from Or.inr (Or.inr (by omega)))]
        · rw [if_pos h5, if_neg]
          rintro (z | z | z)
          · exact h4 z
          · exact hno z
          · omega
      by_cases h2 : 10 ≤ a.toInt ∧ a.toInt ≤ 49
      · rw [if_neg (nn h2), fM_mm _ _ hm em, rem10 (by omega)]
        simp only [Option.bind_some, bz_0]
        have hmod := Nat.mod_lt (ix a) (show 10 > 0 by omega)
        by_cases h3 : ix a % 10 < m
        · rw [if_neg (nn (ib_nI h3 (by omega))), if_pos (show ASK m a from Or.inr (Or.inl ⟨by omega, h3⟩))]
        · rw [if_pos (by intro z; have := ix_lt z; rw [ix_nI (by omega)] at this; exact h3 this)]
          exact b49 (fun z => h3 z.2)
      · rw [if_pos h2]
        exact b49 (fun z => h2 (by omega))
  · rw [if_pos h1, if_neg h1]
theorem op_morning (n a : Int32) : Op (fN_morning n a) (fM_morning n a) := by
  intro M hR
  obtain ⟨m, m1, m2, m3, m4⟩ := hR.2.2.2.1
  have t0 : (0 : Int32).toInt = 0 := rfl
  have t100 : (100 : Int32).toInt = 100 := rfl
  have cls : fN_morning n a M = if ib n 101 then (if ASK m a then (fD_run 1 n M).bind fun M2 => (if a < 50 then
          if a < 10 then
            if a = 0 then
              (fD_workLeft M2).bind fun w3 =>
              some (w3.1, w3.2)
            else
            if a = 1 then
              some ((M2 45 13), M2)
            else
            if a = 2 then
              some ((M2 45 14), M2)
            else
              (fD_dear M2).bind fun w7 =>
              some (w7.1, w7.2)
          else
            (fD_ofMaid (a - a / 10 * 10) (a / 10) M2).bind fun w8 =>
            some (w8.1, w8.2)
        else
          if ib (a - 50) 8 then
          some ((M2 56 (ix (a - 50))), M2)
          else none) else some (-2, M)) else some (-2, M) := by
    unfold fN_morning
    rw [asked_eq m1 m2]
    simp only [Option.bind_some, bz_0]
    by_cases h1 : n < 0
    · rw [if_pos h1, if_neg (by intro z; rw [i_lt, t0] at h1; have := z.1; omega)]
    · rw [if_neg h1]
      by_cases h2 : (100 : Int32) < n
      · rw [if_pos h2, if_neg (by intro z; rw [i_lt, t100] at h2; have := z.2; omega)]
      · rw [i_lt, t0] at h1
        rw [i_lt, t100] at h2
        rw [if_neg (by rw [i_lt, t100]; exact h2), if_pos (show ib n 101 from ⟨by omega, by omega⟩)]
        by_cases h3 : ASK m a
        · rw [if_neg (nn h3), if_pos h3]
        · rw [if_pos h3, if_neg h3]
  rw [cls]
  by_cases h1 : ib n 101
  · rw [if_pos h1]
    by_cases h3 : ASK m a
    · rw [if_pos h3]
      obtain ⟨n', hn', rfl⟩ := ib_ex h1
      obtain ⟨V, tl, C, D, hV, vo, e1, e2, k1, k2, hD, cv, dc, ds, q, mv, dm⟩ := run_both hR (show n' ≤ 100 by omega)
      have evm : vM V = m := by
        have : V 0 2 = M 1 2 := by rw [hV]; rfl
        show ix (V 0 2) = m
        rw [this, m2, ix_nI (by omega)]
      rw [e1]
      simp only [Option.bind_some]
      have mc : ∀ v, (∃ D', fM_morning_b66 (nI n') a C = some (v, D') ∧ D' = D) → fM_morning (nI n') a C = some (v, D) := by
        rintro v ⟨D', z, rfl⟩
        rw [fM_morning_eq m1 (by rw [k1 85 (by omega)]; exact m3), if_pos h1, if_pos h3, z]
      have t50 : (50 : Int32).toInt = 50 := rfl
      have t49 : (49 : Int32).toInt = 49 := rfl
      have t10 : (10 : Int32).toInt = 10 := rfl
      have t4 : (4 : Int32).toInt = 4 := rfl
      have t20 : (20 : Int32).toInt = 20 := rfl
      have t30 : (30 : Int32).toInt = 30 := rfl
      have t40 : (40 : Int32).toInt = 40 := rfl
      rcases h3 with h3 | h3 | h3
      · have h3' := h3.2
        rw [if_pos (by rw [i_lt, t50]; omega), if_pos (by rw [i_lt, t10]; omega)]
        have fin : ∀ v, (fM_morning_b66 (nI n') a C = some (v, D)) → fM_morning (nI n') a C = some (v, D) := fun v z => mc v ⟨D, z, rfl⟩
        have hb : fM_morning_b66 (nI n') a C = (if a = 0 then
      (fM_leftAll D).bind fun w7 =>
      some (w7.1, w7.2)
    else
      if a = 1 then
        some ((D 85 43), D)
      else
        if a = 2 then
          some ((D 85 44), D)
        else
          (fM_leftAll D).bind fun w8 =>
          some ((w8.1 + (w8.2 85 43)), w8.2)) := by
          unfold fM_morning_b66
          rw [e2]
          simp only [Option.bind_some]
          rw [if_neg (by rw [i_le, t4]; omega)]
        have sl : sumF (D 104) 8 0 0 = sumF (C 56) 8 0 0 := sumF_congr 8 0 0 (fun j _ h => by rw [← dm.2.1 j (by omega), q.2.1 j (by omega)])
        by_cases a0 : a = 0
        · rw [if_pos a0]
          unfold fD_workLeft
          rw [fN_sum_eq]
          exact ⟨_, C, D, rfl, fin _ (by rw [hb, if_pos a0, fM_leftAll_eq, sl]; rfl), hD⟩
        · rw [if_neg a0]
          by_cases a1 : a = 1
          · rw [if_pos a1]
            exact ⟨_, C, D, rfl, fin _ (by rw [hb, if_neg a0, if_pos a1, ← dm.2.2.1, q.2.2.1]), hD⟩
          · rw [if_neg a1]
            by_cases a2 : a = 2
            · rw [if_pos a2]
              exact ⟨_, C, D, rfl, fin _ (by rw [hb, if_neg a0, if_neg a1, if_pos a2, ← dm.2.2.2, q.2.2.2]), hD⟩
            · rw [if_neg a2]
              unfold fD_dear
              rw [fN_sum_eq]
              exact ⟨_, C, D, rfl, fin _ (by rw [hb, if_neg a0, if_neg a1, if_neg a2, fM_leftAll_eq, sl]; simp only [Option.bind_some]; rw [← dm.2.2.1, q.2.2.1]), hD⟩
      · obtain ⟨h3a, h3b⟩ := h3
        rw [if_pos (by rw [i_lt, t50]; omega), if_neg (by rw [i_lt, t10]; omega), rem10 (by omega), div10 (by omega)]
        obtain ⟨k, hk⟩ : ∃ k, k = ix a % 10 := ⟨_, rfl⟩
        obtain ⟨d, hd⟩ : ∃ d, d = ix a / 10 := ⟨_, rfl⟩
        have hixa : (ix a : Int) = a.toInt := by unfold ix; omega
        have hd4 : 1 ≤ d ∧ d ≤ 4 := by omega
        rw [← hk, ← hd]
        have hkm : k < m := by omega
        have hk4 : ib (nI k) 4 := ib_nI (by omega) (by omega)
        have F := cv.f
        have dk := q.1 k (by omega)
        have dmk := dm.1 k (by omega)
        have hsk : sk 4 k = k := by unfold sk; rw [if_pos (by omega)]
        rw [hsk] at dmk
        have of : ∀ v, (if nI d = 1 then some (C 50 k, C) else if nI d = 2 then some (C 54 k, C) else if nI d = 3 then some (C 55 k, C) else some (aimS V (dayS V tl n') k, C)) = some (v, C) → fD_ofMaid (nI k) (nI d) C = some (v, C) := by
          intro v hv
          unfold fD_ofMaid
          rw [if_pos F.2.1, F.1, show C 1 2 = nI m by rw [F.2.2.2.2.1, evm], fN_w _ m _ (by omega)]
          simp only [Option.bind_some, bz_0]
          rw [if_neg (nn (ib_nI hkm (by omega))), if_pos hk4, ix_nI (by omega), if_pos hk4, if_pos hk4, F.1, if_pos (show hOK 1 by decide), if_pos hk4, if_pos hk4, cv.aim dc q (show k < vM V by omega), ← hv]
          rfl
        have hb : ∀ v, (if nI d = 1 then some (D 98 k, D) else if nI d = 2 then some (D 102 k, D) else if nI d = 3 then some (D 103 k, D) else some (aimS V (dayS V tl n') k, D)) = some (v, D) → fM_morning (nI n') a C = some (v, D) := by
          intro v hv
          apply mc
          refine ⟨D, ?_, rfl⟩
          unfold fM_morning_b66
          rw [e2]
          simp only [Option.bind_some]
          have am := fM_aimOf_eq vo mv ds dm (show k < vM V by omega)
          rw [hsk] at am
          rw [if_pos (by rw [i_le, t4]; omega), if_pos (by rw [i_le, t49]; omega), rem10 (by omega), ← hk, am, if_pos hk4, if_pos hk4, if_pos hk4, ix_nI (by omega), ← hv]
          simp only [i_le, t20, t30, t40, show (1 : Int32) = nI 1 from rfl, show (2 : Int32) = nI 2 from rfl, show (3 : Int32) = nI 3 from rfl, n_eq (show d < 2147483648 by omega) (show 1 < 2147483648 by omega), n_eq (show d < 2147483648 by omega) (show 2 < 2147483648 by omega), n_eq (show d < 2147483648 by omega) (show 3 < 2147483648 by omega), Option.bind_some]
          rcases (by omega : d = 1 ∨ d = 2 ∨ d = 3 ∨ d = 4) with z | z | z | z
          · rw [if_neg (by omega), if_pos z]
          · rw [if_pos (by omega), if_neg (by omega), if_neg (by omega), if_pos z]
          · rw [if_pos (by omega), if_pos (by omega), if_neg (by omega), if_neg (by omega), if_neg (by omega), if_pos z]
          · rw [if_pos (by omega), if_pos (by omega), if_pos (by omega), if_neg (by omega), if_neg (by omega), if_neg (by omega)]
        have fin : ∀ v, (if nI d = 1 then some (C 50 k, C) else if nI d = 2 then some (C 54 k, C) else if nI d = 3 then some (C 55 k, C) else some (aimS V (dayS V tl n') k, C)) = some (v, C) → (if nI d = 1 then some (D 98 k, D) else if nI d = 2 then some (D 102 k, D) else if nI d = 3 then some (D 103 k, D) else some (aimS V (dayS V tl n') k, D)) = some (v, D) → ∃ v M1 M2, ((fD_ofMaid (nI k) (nI d) C).bind fun w8 => some (w8.1, w8.2)) = some (v, M1) ∧ fM_morning (nI n') a M1 = some (v, M2) ∧ Rel M2 := by
          intro v h1 h2
          exact ⟨v, C, D, by rw [of v h1]; rfl, hb v h2, hD⟩
        by_cases d1 : nI d = 1
        · exact fin (C 50 k) (by rw [if_pos d1]) (by rw [if_pos d1, ← dmk.1, dk.1])
        · by_cases d2 : nI d = 2
          · exact fin (C 54 k) (by rw [if_neg d1, if_pos d2]) (by rw [if_neg d1, if_pos d2, ← dmk.2.2.2.2.1, dk.2.2.2.2.1])
          · by_cases d3 : nI d = 3
            · exact fin (C 55 k) (by rw [if_neg d1, if_neg d2, if_pos d3]) (by rw [if_neg d1, if_neg d2, if_pos d3, ← dmk.2.2.2.2.2, dk.2.2.2.2.2])
            · exact fin _ (by rw [if_neg d1, if_neg d2, if_neg d3]) (by rw [if_neg d1, if_neg d2, if_neg d3])
      · have e8 : ib (a - 50) 8 := by rw [show (50 : Int32) = nI 50 from rfl, sub_ib (by omega)]; omega
        rw [if_neg (by rw [i_lt, t50]; omega), if_pos e8]
        refine ⟨_, C, D, rfl, ?_, hD⟩
        apply mc
        refine ⟨D, ?_, rfl⟩
        unfold fM_morning_b66
        rw [e2]
        simp only [Option.bind_some]
        rw [if_pos (by rw [i_le, t4]; omega), if_neg (by rw [i_le, t49]; omega), if_pos e8, ← dm.2.1 _ (ix_lt e8), q.2.1 _ (ix_lt e8)]
    · rw [if_neg h3]
      refine ⟨-2, M, M, rfl, ?_, hR⟩
      rw [fM_morning_eq m1 m3, if_pos h1, if_neg h3]
  · rw [if_neg h1]
    refine ⟨-2, M, M, rfl, ?_, hR⟩
    rw [fM_morning_eq m1 m3, if_neg h1]
end
