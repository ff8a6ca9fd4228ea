-- ===== PART A: goes FIRST, ahead of the names: the tables' words, and 'selects' of the private methods out of them =====
/-- a private method of a class that the tables say can be made, by its rows of tables_1 -/
def lw_okq (q : MethodName × Nat) : Prop := (q.1.cls ≠ "java/lang/invoke/MethodHandle" ∧ q.1.cls ≠ "java/lang/invoke/VarHandle") ∧ Cond.instantiable q.1.cls q.2 ∈ tables_1 ∧ Cond.privateMethod q.1 ∈ tables_1 ∧ Cond.instanceMethod q.1 ∈ tables_1
theorem lw_p0 : lw_okq (⟨"EveryTwentyMinutes", "refused", "(I)I"⟩, 11) := ⟨⟨by decide +kernel, by decide +kernel⟩, List.mem_of_getElem? (i := 13) (by decide +kernel), List.mem_of_getElem? (i := 214) (by decide +kernel), List.mem_of_getElem? (i := 215) (by decide +kernel)⟩
theorem lw_p1 : lw_okq (⟨"EveryTwentyMinutes$Letters", "isDigit", "(I)Z"⟩, 2) := ⟨⟨by decide +kernel, by decide +kernel⟩, List.mem_of_getElem? (i := 116) (by decide +kernel), List.mem_of_getElem? (i := 233) (by decide +kernel), List.mem_of_getElem? (i := 234) (by decide +kernel)⟩
theorem lw_p2 : lw_okq (⟨"EveryTwentyMinutes", "asNow", "()LEveryTwentyMinutes$Hall;"⟩, 11) := ⟨⟨by decide +kernel, by decide +kernel⟩, List.mem_of_getElem? (i := 13) (by decide +kernel), List.mem_of_getElem? (i := 237) (by decide +kernel), List.mem_of_getElem? (i := 238) (by decide +kernel)⟩
theorem lw_p3 : lw_okq (⟨"EveryTwentyMinutes$Letters", "obeyed", "(LEveryTwentyMinutes$Hall;I)Z"⟩, 2) := ⟨⟨by decide +kernel, by decide +kernel⟩, List.mem_of_getElem? (i := 116) (by decide +kernel), List.mem_of_getElem? (i := 252) (by decide +kernel), List.mem_of_getElem? (i := 253) (by decide +kernel)⟩
theorem lw_p4 : lw_okq (⟨"EveryTwentyMinutes$Letters", "coupleComes", "(LEveryTwentyMinutes$Hall;I)Z"⟩, 2) := ⟨⟨by decide +kernel, by decide +kernel⟩, List.mem_of_getElem? (i := 116) (by decide +kernel), List.mem_of_getElem? (i := 256) (by decide +kernel), List.mem_of_getElem? (i := 257) (by decide +kernel)⟩
theorem lw_p5 : lw_okq (⟨"EveryTwentyMinutes$Letters", "number", "(II)I"⟩, 2) := ⟨⟨by decide +kernel, by decide +kernel⟩, List.mem_of_getElem? (i := 116) (by decide +kernel), List.mem_of_getElem? (i := 260) (by decide +kernel), List.mem_of_getElem? (i := 261) (by decide +kernel)⟩
theorem lw_p6 : lw_okq (⟨"EveryTwentyMinutes", "inMind", "()LEveryTwentyMinutes$Hall;"⟩, 11) := ⟨⟨by decide +kernel, by decide +kernel⟩, List.mem_of_getElem? (i := 13) (by decide +kernel), List.mem_of_getElem? (i := 421) (by decide +kernel), List.mem_of_getElem? (i := 422) (by decide +kernel)⟩
theorem lw_p7 : lw_okq (⟨"EveryTwentyMinutes", "oneIsContent", "(IIII)Z"⟩, 11) := ⟨⟨by decide +kernel, by decide +kernel⟩, List.mem_of_getElem? (i := 13) (by decide +kernel), List.mem_of_getElem? (i := 584) (by decide +kernel), List.mem_of_getElem? (i := 585) (by decide +kernel)⟩
theorem lw_p8 : lw_okq (⟨"EveryTwentyMinutes", "askedBy", "(IIII)LEveryTwentyMinutes$Hall;"⟩, 11) := ⟨⟨by decide +kernel, by decide +kernel⟩, List.mem_of_getElem? (i := 13) (by decide +kernel), List.mem_of_getElem? (i := 588) (by decide +kernel), List.mem_of_getElem? (i := 589) (by decide +kernel)⟩
theorem lw_p9 : lw_okq (⟨"EveryTwentyMinutes", "otherIsContent", "(IIII)Z"⟩, 11) := ⟨⟨by decide +kernel, by decide +kernel⟩, List.mem_of_getElem? (i := 13) (by decide +kernel), List.mem_of_getElem? (i := 592) (by decide +kernel), List.mem_of_getElem? (i := 593) (by decide +kernel)⟩
theorem lw_p10 : lw_okq (⟨"EveryTwentyMinutes", "kindsTold", "(I)I"⟩, 11) := ⟨⟨by decide +kernel, by decide +kernel⟩, List.mem_of_getElem? (i := 13) (by decide +kernel), List.mem_of_getElem? (i := 600) (by decide +kernel), List.mem_of_getElem? (i := 601) (by decide +kernel)⟩
theorem lw_p11 : lw_okq (⟨"EveryTwentyMinutes", "endsAsTold", "(LEveryTwentyMinutes$Hall;)Z"⟩, 11) := ⟨⟨by decide +kernel, by decide +kernel⟩, List.mem_of_getElem? (i := 13) (by decide +kernel), List.mem_of_getElem? (i := 604) (by decide +kernel), List.mem_of_getElem? (i := 605) (by decide +kernel)⟩
theorem lw_p12 : lw_okq (⟨"EveryTwentyMinutes", "figuresTold", "(I)I"⟩, 11) := ⟨⟨by decide +kernel, by decide +kernel⟩, List.mem_of_getElem? (i := 13) (by decide +kernel), List.mem_of_getElem? (i := 608) (by decide +kernel), List.mem_of_getElem? (i := 609) (by decide +kernel)⟩
theorem lw_p13 : lw_okq (⟨"EveryTwentyMinutes", "minutesTold", "(IZ)I"⟩, 11) := ⟨⟨by decide +kernel, by decide +kernel⟩, List.mem_of_getElem? (i := 13) (by decide +kernel), List.mem_of_getElem? (i := 612) (by decide +kernel), List.mem_of_getElem? (i := 613) (by decide +kernel)⟩
theorem lw_p14 : lw_okq (⟨"EveryTwentyMinutesModel", "refuse", "(I)I"⟩, 39) := ⟨⟨by decide +kernel, by decide +kernel⟩, List.mem_of_getElem? (i := 702) (by decide +kernel), List.mem_of_getElem? (i := 830) (by decide +kernel), List.mem_of_getElem? (i := 831) (by decide +kernel)⟩
theorem lw_p15 : lw_okq (⟨"EveryTwentyMinutesModel", "readStatement", "()V"⟩, 39) := ⟨⟨by decide +kernel, by decide +kernel⟩, List.mem_of_getElem? (i := 702) (by decide +kernel), List.mem_of_getElem? (i := 838) (by decide +kernel), List.mem_of_getElem? (i := 839) (by decide +kernel)⟩
def lw_privs_1 : List (MethodName × Nat) := [(⟨"EveryTwentyMinutes", "refused", "(I)I"⟩, 11), (⟨"EveryTwentyMinutes$Letters", "isDigit", "(I)Z"⟩, 2), (⟨"EveryTwentyMinutes", "asNow", "()LEveryTwentyMinutes$Hall;"⟩, 11), (⟨"EveryTwentyMinutes$Letters", "obeyed", "(LEveryTwentyMinutes$Hall;I)Z"⟩, 2), (⟨"EveryTwentyMinutes$Letters", "coupleComes", "(LEveryTwentyMinutes$Hall;I)Z"⟩, 2), (⟨"EveryTwentyMinutes$Letters", "number", "(II)I"⟩, 2), (⟨"EveryTwentyMinutes", "inMind", "()LEveryTwentyMinutes$Hall;"⟩, 11), (⟨"EveryTwentyMinutes", "oneIsContent", "(IIII)Z"⟩, 11), (⟨"EveryTwentyMinutes", "askedBy", "(IIII)LEveryTwentyMinutes$Hall;"⟩, 11), (⟨"EveryTwentyMinutes", "otherIsContent", "(IIII)Z"⟩, 11), (⟨"EveryTwentyMinutes", "kindsTold", "(I)I"⟩, 11), (⟨"EveryTwentyMinutes", "endsAsTold", "(LEveryTwentyMinutes$Hall;)Z"⟩, 11), (⟨"EveryTwentyMinutes", "figuresTold", "(I)I"⟩, 11), (⟨"EveryTwentyMinutes", "minutesTold", "(IZ)I"⟩, 11), (⟨"EveryTwentyMinutesModel", "refuse", "(I)I"⟩, 39), (⟨"EveryTwentyMinutesModel", "readStatement", "()V"⟩, 39)]
theorem lw_r1 : ∀ q ∈ lw_privs_1, lw_okq q := List.forall_mem_cons.mpr ⟨lw_p0, List.forall_mem_cons.mpr ⟨lw_p1, List.forall_mem_cons.mpr ⟨lw_p2, List.forall_mem_cons.mpr ⟨lw_p3, List.forall_mem_cons.mpr ⟨lw_p4, List.forall_mem_cons.mpr ⟨lw_p5, List.forall_mem_cons.mpr ⟨lw_p6, List.forall_mem_cons.mpr ⟨lw_p7, List.forall_mem_cons.mpr ⟨lw_p8, List.forall_mem_cons.mpr ⟨lw_p9, List.forall_mem_cons.mpr ⟨lw_p10, List.forall_mem_cons.mpr ⟨lw_p11, List.forall_mem_cons.mpr ⟨lw_p12, List.forall_mem_cons.mpr ⟨lw_p13, List.forall_mem_cons.mpr ⟨lw_p14, List.forall_mem_cons.mpr ⟨lw_p15, fun _ h => absurd h List.not_mem_nil⟩⟩⟩⟩⟩⟩⟩⟩⟩⟩⟩⟩⟩⟩⟩⟩
theorem lw_p16 : lw_okq (⟨"EveryTwentyMinutesModel", "here", "()I"⟩, 39) := ⟨⟨by decide +kernel, by decide +kernel⟩, List.mem_of_getElem? (i := 702) (by decide +kernel), List.mem_of_getElem? (i := 842) (by decide +kernel), List.mem_of_getElem? (i := 843) (by decide +kernel)⟩
theorem lw_p17 : lw_okq (⟨"EveryTwentyMinutesModel", "readDigits", "(I)I"⟩, 39) := ⟨⟨by decide +kernel, by decide +kernel⟩, List.mem_of_getElem? (i := 702) (by decide +kernel), List.mem_of_getElem? (i := 849) (by decide +kernel), List.mem_of_getElem? (i := 850) (by decide +kernel)⟩
theorem lw_p18 : lw_okq (⟨"EveryTwentyMinutesModel", "think", "()V"⟩, 39) := ⟨⟨by decide +kernel, by decide +kernel⟩, List.mem_of_getElem? (i := 702) (by decide +kernel), List.mem_of_getElem? (i := 858) (by decide +kernel), List.mem_of_getElem? (i := 859) (by decide +kernel)⟩
theorem lw_p19 : lw_okq (⟨"EveryTwentyMinutesModel", "carryAll", "([IZ)V"⟩, 39) := ⟨⟨by decide +kernel, by decide +kernel⟩, List.mem_of_getElem? (i := 702) (by decide +kernel), List.mem_of_getElem? (i := 862) (by decide +kernel), List.mem_of_getElem? (i := 863) (by decide +kernel)⟩
theorem lw_p20 : lw_okq (⟨"EveryTwentyMinutesModel", "carry", "(I)I"⟩, 39) := ⟨⟨by decide +kernel, by decide +kernel⟩, List.mem_of_getElem? (i := 702) (by decide +kernel), List.mem_of_getElem? (i := 866) (by decide +kernel), List.mem_of_getElem? (i := 867) (by decide +kernel)⟩
theorem lw_p21 : lw_okq (⟨"EveryTwentyMinutesModel", "comesTold", "(I)Z"⟩, 39) := ⟨⟨by decide +kernel, by decide +kernel⟩, List.mem_of_getElem? (i := 702) (by decide +kernel), List.mem_of_getElem? (i := 870) (by decide +kernel), List.mem_of_getElem? (i := 871) (by decide +kernel)⟩
theorem lw_p22 : lw_okq (⟨"EveryTwentyMinutesModel", "coupleComes", "(III)Z"⟩, 39) := ⟨⟨by decide +kernel, by decide +kernel⟩, List.mem_of_getElem? (i := 702) (by decide +kernel), List.mem_of_getElem? (i := 874) (by decide +kernel), List.mem_of_getElem? (i := 875) (by decide +kernel)⟩
theorem lw_p23 : lw_okq (⟨"EveryTwentyMinutesModel", "roomsBecome", "(I)V"⟩, 39) := ⟨⟨by decide +kernel, by decide +kernel⟩, List.mem_of_getElem? (i := 702) (by decide +kernel), List.mem_of_getElem? (i := 879) (by decide +kernel), List.mem_of_getElem? (i := 880) (by decide +kernel)⟩
theorem lw_p24 : lw_okq (⟨"EveryTwentyMinutesModel", "isCouple", "(I)Z"⟩, 39) := ⟨⟨by decide +kernel, by decide +kernel⟩, List.mem_of_getElem? (i := 702) (by decide +kernel), List.mem_of_getElem? (i := 883) (by decide +kernel), List.mem_of_getElem? (i := 884) (by decide +kernel)⟩
theorem lw_p25 : lw_okq (⟨"EveryTwentyMinutesModel", "putFirst", "(I)V"⟩, 39) := ⟨⟨by decide +kernel, by decide +kernel⟩, List.mem_of_getElem? (i := 702) (by decide +kernel), List.mem_of_getElem? (i := 887) (by decide +kernel), List.mem_of_getElem? (i := 888) (by decide +kernel)⟩
theorem lw_p26 : lw_okq (⟨"EveryTwentyMinutesModel", "placeOf", "(I)I"⟩, 39) := ⟨⟨by decide +kernel, by decide +kernel⟩, List.mem_of_getElem? (i := 702) (by decide +kernel), List.mem_of_getElem? (i := 891) (by decide +kernel), List.mem_of_getElem? (i := 892) (by decide +kernel)⟩
theorem lw_p27 : lw_okq (⟨"EveryTwentyMinutesModel", "wedsCome", "(I)Z"⟩, 39) := ⟨⟨by decide +kernel, by decide +kernel⟩, List.mem_of_getElem? (i := 702) (by decide +kernel), List.mem_of_getElem? (i := 895) (by decide +kernel), List.mem_of_getElem? (i := 896) (by decide +kernel)⟩
theorem lw_p28 : lw_okq (⟨"EveryTwentyMinutesModel", "wedOne", "(I)V"⟩, 39) := ⟨⟨by decide +kernel, by decide +kernel⟩, List.mem_of_getElem? (i := 702) (by decide +kernel), List.mem_of_getElem? (i := 900) (by decide +kernel), List.mem_of_getElem? (i := 901) (by decide +kernel)⟩
theorem lw_p29 : lw_okq (⟨"EveryTwentyMinutesModel", "firstOff", "()I"⟩, 39) := ⟨⟨by decide +kernel, by decide +kernel⟩, List.mem_of_getElem? (i := 702) (by decide +kernel), List.mem_of_getElem? (i := 904) (by decide +kernel), List.mem_of_getElem? (i := 905) (by decide +kernel)⟩
theorem lw_p30 : lw_okq (⟨"EveryTwentyMinutesModel", "readyOf", "(I)I"⟩, 39) := ⟨⟨by decide +kernel, by decide +kernel⟩, List.mem_of_getElem? (i := 702) (by decide +kernel), List.mem_of_getElem? (i := 908) (by decide +kernel), List.mem_of_getElem? (i := 909) (by decide +kernel)⟩
theorem lw_p31 : lw_okq (⟨"EveryTwentyMinutesModel", "restFor", "(I)V"⟩, 39) := ⟨⟨by decide +kernel, by decide +kernel⟩, List.mem_of_getElem? (i := 702) (by decide +kernel), List.mem_of_getElem? (i := 922) (by decide +kernel), List.mem_of_getElem? (i := 923) (by decide +kernel)⟩
def lw_privs_2 : List (MethodName × Nat) := [(⟨"EveryTwentyMinutesModel", "here", "()I"⟩, 39), (⟨"EveryTwentyMinutesModel", "readDigits", "(I)I"⟩, 39), (⟨"EveryTwentyMinutesModel", "think", "()V"⟩, 39), (⟨"EveryTwentyMinutesModel", "carryAll", "([IZ)V"⟩, 39), (⟨"EveryTwentyMinutesModel", "carry", "(I)I"⟩, 39), (⟨"EveryTwentyMinutesModel", "comesTold", "(I)Z"⟩, 39), (⟨"EveryTwentyMinutesModel", "coupleComes", "(III)Z"⟩, 39), (⟨"EveryTwentyMinutesModel", "roomsBecome", "(I)V"⟩, 39), (⟨"EveryTwentyMinutesModel", "isCouple", "(I)Z"⟩, 39), (⟨"EveryTwentyMinutesModel", "putFirst", "(I)V"⟩, 39), (⟨"EveryTwentyMinutesModel", "placeOf", "(I)I"⟩, 39), (⟨"EveryTwentyMinutesModel", "wedsCome", "(I)Z"⟩, 39), (⟨"EveryTwentyMinutesModel", "wedOne", "(I)V"⟩, 39), (⟨"EveryTwentyMinutesModel", "firstOff", "()I"⟩, 39), (⟨"EveryTwentyMinutesModel", "readyOf", "(I)I"⟩, 39), (⟨"EveryTwentyMinutesModel", "restFor", "(I)V"⟩, 39)]
theorem lw_r2 : ∀ q ∈ lw_privs_2, lw_okq q := List.forall_mem_cons.mpr ⟨lw_p16, List.forall_mem_cons.mpr ⟨lw_p17, List.forall_mem_cons.mpr ⟨lw_p18, List.forall_mem_cons.mpr ⟨lw_p19, List.forall_mem_cons.mpr ⟨lw_p20, List.forall_mem_cons.mpr ⟨lw_p21, List.forall_mem_cons.mpr ⟨lw_p22, List.forall_mem_cons.mpr ⟨lw_p23, List.forall_mem_cons.mpr ⟨lw_p24, List.forall_mem_cons.mpr ⟨lw_p25, List.forall_mem_cons.mpr ⟨lw_p26, List.forall_mem_cons.mpr ⟨lw_p27, List.forall_mem_cons.mpr ⟨lw_p28, List.forall_mem_cons.mpr ⟨lw_p29, List.forall_mem_cons.mpr ⟨lw_p30, List.forall_mem_cons.mpr ⟨lw_p31, fun _ h => absurd h List.not_mem_nil⟩⟩⟩⟩⟩⟩⟩⟩⟩⟩⟩⟩⟩⟩⟩⟩
theorem lw_p32 : lw_okq (⟨"EveryTwentyMinutesModel", "again", "()V"⟩, 39) := ⟨⟨by decide +kernel, by decide +kernel⟩, List.mem_of_getElem? (i := 702) (by decide +kernel), List.mem_of_getElem? (i := 926) (by decide +kernel), List.mem_of_getElem? (i := 927) (by decide +kernel)⟩
theorem lw_p33 : lw_okq (⟨"EveryTwentyMinutesModel", "guestsOf", "(I)I"⟩, 39) := ⟨⟨by decide +kernel, by decide +kernel⟩, List.mem_of_getElem? (i := 702) (by decide +kernel), List.mem_of_getElem? (i := 946) (by decide +kernel), List.mem_of_getElem? (i := 947) (by decide +kernel)⟩
theorem lw_p34 : lw_okq (⟨"EveryTwentyMinutesModel", "posesOf", "(I)I"⟩, 39) := ⟨⟨by decide +kernel, by decide +kernel⟩, List.mem_of_getElem? (i := 702) (by decide +kernel), List.mem_of_getElem? (i := 950) (by decide +kernel), List.mem_of_getElem? (i := 951) (by decide +kernel)⟩
theorem lw_p35 : lw_okq (⟨"EveryTwentyMinutesModel", "keepTurn", "()V"⟩, 39) := ⟨⟨by decide +kernel, by decide +kernel⟩, List.mem_of_getElem? (i := 702) (by decide +kernel), List.mem_of_getElem? (i := 978) (by decide +kernel), List.mem_of_getElem? (i := 979) (by decide +kernel)⟩
theorem lw_p36 : lw_okq (⟨"EveryTwentyMinutesModel", "wedAll", "()V"⟩, 39) := ⟨⟨by decide +kernel, by decide +kernel⟩, List.mem_of_getElem? (i := 702) (by decide +kernel), List.mem_of_getElem? (i := 1001) (by decide +kernel), List.mem_of_getElem? (i := 1002) (by decide +kernel)⟩
theorem lw_p37 : lw_okq (⟨"EveryTwentyMinutesModel", "lateOf", "(I)I"⟩, 39) := ⟨⟨by decide +kernel, by decide +kernel⟩, List.mem_of_getElem? (i := 702) (by decide +kernel), List.mem_of_getElem? (i := 1005) (by decide +kernel), List.mem_of_getElem? (i := 1006) (by decide +kernel)⟩
theorem lw_p38 : lw_okq (⟨"EveryTwentyMinutesModel", "allLate", "()I"⟩, 39) := ⟨⟨by decide +kernel, by decide +kernel⟩, List.mem_of_getElem? (i := 702) (by decide +kernel), List.mem_of_getElem? (i := 1018) (by decide +kernel), List.mem_of_getElem? (i := 1019) (by decide +kernel)⟩
theorem lw_p39 : lw_okq (⟨"EveryTwentyMinutesModel", "lastEnd", "()I"⟩, 39) := ⟨⟨by decide +kernel, by decide +kernel⟩, List.mem_of_getElem? (i := 702) (by decide +kernel), List.mem_of_getElem? (i := 1022) (by decide +kernel), List.mem_of_getElem? (i := 1023) (by decide +kernel)⟩
theorem lw_p40 : lw_okq (⟨"EveryTwentyMinutesModel", "meetMany", "()I"⟩, 39) := ⟨⟨by decide +kernel, by decide +kernel⟩, List.mem_of_getElem? (i := 702) (by decide +kernel), List.mem_of_getElem? (i := 1030) (by decide +kernel), List.mem_of_getElem? (i := 1031) (by decide +kernel)⟩
theorem lw_p41 : lw_okq (⟨"EveryTwentyMinutesModel", "meet", "(II)Z"⟩, 39) := ⟨⟨by decide +kernel, by decide +kernel⟩, List.mem_of_getElem? (i := 702) (by decide +kernel), List.mem_of_getElem? (i := 1034) (by decide +kernel), List.mem_of_getElem? (i := 1035) (by decide +kernel)⟩
theorem lw_p42 : lw_okq (⟨"EveryTwentyMinutesModel", "firstMet", "()I"⟩, 39) := ⟨⟨by decide +kernel, by decide +kernel⟩, List.mem_of_getElem? (i := 702) (by decide +kernel), List.mem_of_getElem? (i := 1042) (by decide +kernel), List.mem_of_getElem? (i := 1043) (by decide +kernel)⟩
theorem lw_p43 : lw_okq (⟨"EveryTwentyMinutesModel", "strayedOne", "()I"⟩, 39) := ⟨⟨by decide +kernel, by decide +kernel⟩, List.mem_of_getElem? (i := 702) (by decide +kernel), List.mem_of_getElem? (i := 1046) (by decide +kernel), List.mem_of_getElem? (i := 1047) (by decide +kernel)⟩
theorem lw_p44 : lw_okq (⟨"EveryTwentyMinutesModel", "laySorted", "()V"⟩, 39) := ⟨⟨by decide +kernel, by decide +kernel⟩, List.mem_of_getElem? (i := 702) (by decide +kernel), List.mem_of_getElem? (i := 1054) (by decide +kernel), List.mem_of_getElem? (i := 1055) (by decide +kernel)⟩
theorem lw_p45 : lw_okq (⟨"EveryTwentyMinutesModel", "layOrder", "(I)V"⟩, 39) := ⟨⟨by decide +kernel, by decide +kernel⟩, List.mem_of_getElem? (i := 702) (by decide +kernel), List.mem_of_getElem? (i := 1061) (by decide +kernel), List.mem_of_getElem? (i := 1062) (by decide +kernel)⟩
theorem lw_p46 : lw_okq (⟨"EveryTwentyMinutesModel", "lateNow", "()I"⟩, 39) := ⟨⟨by decide +kernel, by decide +kernel⟩, List.mem_of_getElem? (i := 702) (by decide +kernel), List.mem_of_getElem? (i := 1068) (by decide +kernel), List.mem_of_getElem? (i := 1069) (by decide +kernel)⟩
theorem lw_p47 : lw_okq (⟨"EveryTwentyMinutesModel", "pose", "()I"⟩, 39) := ⟨⟨by decide +kernel, by decide +kernel⟩, List.mem_of_getElem? (i := 702) (by decide +kernel), List.mem_of_getElem? (i := 1096) (by decide +kernel), List.mem_of_getElem? (i := 1097) (by decide +kernel)⟩
def lw_privs_3 : List (MethodName × Nat) := [(⟨"EveryTwentyMinutesModel", "again", "()V"⟩, 39), (⟨"EveryTwentyMinutesModel", "guestsOf", "(I)I"⟩, 39), (⟨"EveryTwentyMinutesModel", "posesOf", "(I)I"⟩, 39), (⟨"EveryTwentyMinutesModel", "keepTurn", "()V"⟩, 39), (⟨"EveryTwentyMinutesModel", "wedAll", "()V"⟩, 39), (⟨"EveryTwentyMinutesModel", "lateOf", "(I)I"⟩, 39), (⟨"EveryTwentyMinutesModel", "allLate", "()I"⟩, 39), (⟨"EveryTwentyMinutesModel", "lastEnd", "()I"⟩, 39), (⟨"EveryTwentyMinutesModel", "meetMany", "()I"⟩, 39), (⟨"EveryTwentyMinutesModel", "meet", "(II)Z"⟩, 39), (⟨"EveryTwentyMinutesModel", "firstMet", "()I"⟩, 39), (⟨"EveryTwentyMinutesModel", "strayedOne", "()I"⟩, 39), (⟨"EveryTwentyMinutesModel", "laySorted", "()V"⟩, 39), (⟨"EveryTwentyMinutesModel", "layOrder", "(I)V"⟩, 39), (⟨"EveryTwentyMinutesModel", "lateNow", "()I"⟩, 39), (⟨"EveryTwentyMinutesModel", "pose", "()I"⟩, 39)]
theorem lw_r3 : ∀ q ∈ lw_privs_3, lw_okq q := List.forall_mem_cons.mpr ⟨lw_p32, List.forall_mem_cons.mpr ⟨lw_p33, List.forall_mem_cons.mpr ⟨lw_p34, List.forall_mem_cons.mpr ⟨lw_p35, List.forall_mem_cons.mpr ⟨lw_p36, List.forall_mem_cons.mpr ⟨lw_p37, List.forall_mem_cons.mpr ⟨lw_p38, List.forall_mem_cons.mpr ⟨lw_p39, List.forall_mem_cons.mpr ⟨lw_p40, List.forall_mem_cons.mpr ⟨lw_p41, List.forall_mem_cons.mpr ⟨lw_p42, List.forall_mem_cons.mpr ⟨lw_p43, List.forall_mem_cons.mpr ⟨lw_p44, List.forall_mem_cons.mpr ⟨lw_p45, List.forall_mem_cons.mpr ⟨lw_p46, List.forall_mem_cons.mpr ⟨lw_p47, fun _ h => absurd h List.not_mem_nil⟩⟩⟩⟩⟩⟩⟩⟩⟩⟩⟩⟩⟩⟩⟩⟩
theorem lw_p48 : lw_okq (⟨"EveryTwentyMinutesModel", "nextPosing", "(I)I"⟩, 39) := ⟨⟨by decide +kernel, by decide +kernel⟩, List.mem_of_getElem? (i := 702) (by decide +kernel), List.mem_of_getElem? (i := 1100) (by decide +kernel), List.mem_of_getElem? (i := 1101) (by decide +kernel)⟩
theorem lw_p49 : lw_okq (⟨"EveryTwentyMinutesModel", "insideAt", "(I)I"⟩, 39) := ⟨⟨by decide +kernel, by decide +kernel⟩, List.mem_of_getElem? (i := 702) (by decide +kernel), List.mem_of_getElem? (i := 1112) (by decide +kernel), List.mem_of_getElem? (i := 1113) (by decide +kernel)⟩
theorem lw_p50 : lw_okq (⟨"EveryTwentyMinutesModel", "whenBy", "(II)I"⟩, 39) := ⟨⟨by decide +kernel, by decide +kernel⟩, List.mem_of_getElem? (i := 702) (by decide +kernel), List.mem_of_getElem? (i := 1145) (by decide +kernel), List.mem_of_getElem? (i := 1146) (by decide +kernel)⟩
theorem lw_p51 : lw_okq (⟨"EveryTwentyMinutesModel", "isRow", "()Z"⟩, 39) := ⟨⟨by decide +kernel, by decide +kernel⟩, List.mem_of_getElem? (i := 702) (by decide +kernel), List.mem_of_getElem? (i := 1149) (by decide +kernel), List.mem_of_getElem? (i := 1150) (by decide +kernel)⟩
theorem lw_p52 : lw_okq (⟨"EveryTwentyMinutesModel", "unwed", "()I"⟩, 39) := ⟨⟨by decide +kernel, by decide +kernel⟩, List.mem_of_getElem? (i := 702) (by decide +kernel), List.mem_of_getElem? (i := 1191) (by decide +kernel), List.mem_of_getElem? (i := 1192) (by decide +kernel)⟩
theorem lw_p53 : lw_okq (⟨"EveryTwentyMinutesModel", "drawBelow", "(I)I"⟩, 39) := ⟨⟨by decide +kernel, by decide +kernel⟩, List.mem_of_getElem? (i := 702) (by decide +kernel), List.mem_of_getElem? (i := 1211) (by decide +kernel), List.mem_of_getElem? (i := 1212) (by decide +kernel)⟩
def lw_privs_4 : List (MethodName × Nat) := [(⟨"EveryTwentyMinutesModel", "nextPosing", "(I)I"⟩, 39), (⟨"EveryTwentyMinutesModel", "insideAt", "(I)I"⟩, 39), (⟨"EveryTwentyMinutesModel", "whenBy", "(II)I"⟩, 39), (⟨"EveryTwentyMinutesModel", "isRow", "()Z"⟩, 39), (⟨"EveryTwentyMinutesModel", "unwed", "()I"⟩, 39), (⟨"EveryTwentyMinutesModel", "drawBelow", "(I)I"⟩, 39)]
theorem lw_r4 : ∀ q ∈ lw_privs_4, lw_okq q := List.forall_mem_cons.mpr ⟨lw_p48, List.forall_mem_cons.mpr ⟨lw_p49, List.forall_mem_cons.mpr ⟨lw_p50, List.forall_mem_cons.mpr ⟨lw_p51, List.forall_mem_cons.mpr ⟨lw_p52, List.forall_mem_cons.mpr ⟨lw_p53, fun _ h => absurd h List.not_mem_nil⟩⟩⟩⟩⟩⟩
def lw_privs : List (MethodName × Nat) := lw_privs_1 ++ (lw_privs_2 ++ (lw_privs_3 ++ (lw_privs_4)))
def lw_tbl : List Cond := k2_sels lw_privs ++ tables_1
theorem lw_privs_ok : ∀ q ∈ lw_privs, lw_okq q := by
  show ∀ q ∈ lw_privs_1 ++ (lw_privs_2 ++ (lw_privs_3 ++ (lw_privs_4))), lw_okq q
  exact List.forall_mem_append.mpr ⟨lw_r1, List.forall_mem_append.mpr ⟨lw_r2, List.forall_mem_append.mpr ⟨lw_r3, lw_r4⟩⟩⟩
-- ===== end of PART A; then your names; then what follows =====
/-! names: classes, fields, methods -/
def RX0 : String := "EveryTwentyMinutes$BestOrder"
def TX0 : u_T := fun k => match k with
  | 0 => ("EveryTwentyMinutes$BestOrder", "hall", "LEveryTwentyMinutes$Hall;", true)
  | 1 => ("EveryTwentyMinutes$BestOrder", "path", "[I", true)
  | 2 => ("EveryTwentyMinutes$BestOrder", "order", "[I", true)
  | 3 => ("EveryTwentyMinutes$BestOrder", "many", "I", false)
  | _ => ("EveryTwentyMinutes$BestOrder", "late", "I", false)
def tyX0 : Nat → FieldType := fun k => match k with
  | 0 => .object "EveryTwentyMinutes$Hall"
  | 1 => .array .int
  | 2 => .array .int
  | 3 => .int
  | _ => .int
abbrev wsX00 : List Cond := u_ws RX0 TX0 5
theorem nmX0 : ∀ a, a < 5 → ∀ b, b < 5 → a ≠ b → (TX0 a).2.1 ≠ (TX0 b).2.1 := by decide +kernel
theorem tyX0_ok : ∀ k, k < 5 → parseFieldDescriptor (TX0 k).2.2.1 = some (tyX0 k) := by decide +kernel
abbrev cX0_init : ByteArray := prog_2_method_1_code
def yX0_init : MethodName := ⟨RX0, "<init>", "()V"⟩
abbrev cX0_find : ByteArray := prog_2_method_2_code
def yX0_find : MethodName := ⟨RX0, "find", "(LEveryTwentyMinutes$Hall;)V"⟩
abbrev cX0_seek : ByteArray := prog_2_method_3_code
def yX0_seek : MethodName := ⟨RX0, "seek", "(LEveryTwentyMinutes$BestOrder;III)V"⟩
def RX1 : String := "EveryTwentyMinutes$Fountain"
def TX1 : u_T := fun k => match k with
  | 0 => ("EveryTwentyMinutes$Fountain", "begins", "[I", true)
  | 1 => ("EveryTwentyMinutes$Fountain", "longest", "I", false)
  | _ => ("EveryTwentyMinutes$Fountain", "done", "I", false)
def tyX1 : Nat → FieldType := fun k => match k with
  | 0 => .array .int
  | 1 => .int
  | _ => .int
abbrev wsX10 : List Cond := u_ws RX1 TX1 3
theorem nmX1 : ∀ a, a < 3 → ∀ b, b < 3 → a ≠ b → (TX1 a).2.1 ≠ (TX1 b).2.1 := by decide +kernel
theorem tyX1_ok : ∀ k, k < 3 → parseFieldDescriptor (TX1 k).2.2.1 = some (tyX1 k) := by decide +kernel
abbrev cX1_init : ByteArray := prog_3_method_1_code
def yX1_init : MethodName := ⟨RX1, "<init>", "()V"⟩
abbrev cX1_take : ByteArray := prog_3_method_2_code
def yX1_take : MethodName := ⟨RX1, "take", "(LEveryTwentyMinutes$Hall;)V"⟩
abbrev cX1_next : ByteArray := prog_3_method_3_code
def yX1_next : MethodName := ⟨RX1, "next", "(LEveryTwentyMinutes$Hall;I)I"⟩
def RX2 : String := "EveryTwentyMinutes$Hall"
def TX2 : u_T := fun k => match k with
  | 0 => ("EveryTwentyMinutes$Hall", "couples", "I", false)
  | 1 => ("EveryTwentyMinutes$Hall", "kind", "[I", true)
  | 2 => ("EveryTwentyMinutes$Hall", "figure", "[I", true)
  | 3 => ("EveryTwentyMinutes$Hall", "at", "[I", true)
  | 4 => ("EveryTwentyMinutes$Hall", "wed", "I", false)
  | 5 => ("EveryTwentyMinutes$Hall", "begins", "[I", true)
  | 6 => ("EveryTwentyMinutes$Hall", "ends", "[I", true)
  | 7 => ("EveryTwentyMinutes$Hall", "roomOf", "[I", true)
  | 8 => ("EveryTwentyMinutes$Hall", "waiting", "I", false)
  | 9 => ("EveryTwentyMinutes$Hall", "order", "[I", true)
  | 10 => ("EveryTwentyMinutes$Hall", "rooms", "I", false)
  | 11 => ("EveryTwentyMinutes$Hall", "freeFrom", "[I", true)
  | 12 => ("EveryTwentyMinutes$Hall", "tired", "I", false)
  | _ => ("EveryTwentyMinutes$Hall", "slack", "I", false)
def tyX2 : Nat → FieldType := fun k => match k with
  | 0 => .int
  | 1 => .array .int
  | 2 => .array .int
  | 3 => .array .int
  | 4 => .int
  | 5 => .array .int
  | 6 => .array .int
  | 7 => .array .int
  | 8 => .int
  | 9 => .array .int
  | 10 => .int
  | 11 => .array .int
  | 12 => .int
  | _ => .int
abbrev wsX20 : List Cond := u_ws RX2 TX2 14
theorem nmX2 : ∀ a, a < 14 → ∀ b, b < 14 → a ≠ b → (TX2 a).2.1 ≠ (TX2 b).2.1 := by decide +kernel
theorem tyX2_ok : ∀ k, k < 14 → parseFieldDescriptor (TX2 k).2.2.1 = some (tyX2 k) := by decide +kernel
abbrev cX2_init : ByteArray := prog_4_method_1_code
def yX2_init : MethodName := ⟨RX2, "<init>", "()V"⟩
abbrev cX2_become : ByteArray := prog_4_method_2_code
def yX2_become : MethodName := ⟨RX2, "become", "(LEveryTwentyMinutes$Hall;)V"⟩
abbrev cX2_has : ByteArray := prog_4_method_3_code
def yX2_has : MethodName := ⟨RX2, "has", "(I)Z"⟩
abbrev cX2_isFull : ByteArray := prog_4_method_4_code
def yX2_isFull : MethodName := ⟨RX2, "isFull", "()Z"⟩
abbrev cX2_isWed : ByteArray := prog_4_method_5_code
def yX2_isWed : MethodName := ⟨RX2, "isWed", "(I)Z"⟩
abbrev cX2_lastsOf : ByteArray := prog_4_method_6_code
def yX2_lastsOf : MethodName := ⟨RX2, "lastsOf", "(I)I"⟩
abbrev cX2_readyOf : ByteArray := prog_4_method_7_code
def yX2_readyOf : MethodName := ⟨RX2, "readyOf", "(I)I"⟩
abbrev cX2_guestsOf : ByteArray := prog_4_method_8_code
def yX2_guestsOf : MethodName := ⟨RX2, "guestsOf", "(I)I"⟩
abbrev cX2_add : ByteArray := prog_4_method_9_code
def yX2_add : MethodName := ⟨RX2, "add", "(III)V"⟩
abbrev cX2_openRooms : ByteArray := prog_4_method_10_code
def yX2_openRooms : MethodName := ⟨RX2, "openRooms", "(I)V"⟩
abbrev cX2_placeOf : ByteArray := prog_4_method_11_code
def yX2_placeOf : MethodName := ⟨RX2, "placeOf", "(I)I"⟩
abbrev cX2_putFirst : ByteArray := prog_4_method_12_code
def yX2_putFirst : MethodName := ⟨RX2, "putFirst", "(I)V"⟩
abbrev cX2_changePlaces : ByteArray := prog_4_method_13_code
def yX2_changePlaces : MethodName := ⟨RX2, "changePlaces", "(II)V"⟩
abbrev cX2_restClerk : ByteArray := prog_4_method_14_code
def yX2_restClerk : MethodName := ⟨RX2, "restClerk", "(I)V"⟩
abbrev cX2_wedAll : ByteArray := prog_4_method_15_code
def yX2_wedAll : MethodName := ⟨RX2, "wedAll", "()V"⟩
abbrev cX2_wedSome : ByteArray := prog_4_method_16_code
def yX2_wedSome : MethodName := ⟨RX2, "wedSome", "(I)V"⟩
abbrev cX2_wedFirst : ByteArray := prog_4_method_17_code
def yX2_wedFirst : MethodName := ⟨RX2, "wedFirst", "(I)V"⟩
abbrev cX2_hold : ByteArray := prog_4_method_18_code
def yX2_hold : MethodName := ⟨RX2, "hold", "(II)V"⟩
abbrev cX2_lateOf : ByteArray := prog_4_method_19_code
def yX2_lateOf : MethodName := ⟨RX2, "lateOf", "(I)I"⟩
abbrev cX2_waitOf : ByteArray := prog_4_method_20_code
def yX2_waitOf : MethodName := ⟨RX2, "waitOf", "(I)I"⟩
abbrev cX2_allLate : ByteArray := prog_4_method_21_code
def yX2_allLate : MethodName := ⟨RX2, "allLate", "()I"⟩
abbrev cX2_lateOfWed : ByteArray := prog_4_method_22_code
def yX2_lateOfWed : MethodName := ⟨RX2, "lateOfWed", "()I"⟩
abbrev cX2_last : ByteArray := prog_4_method_23_code
def yX2_last : MethodName := ⟨RX2, "last", "()I"⟩
abbrev cX2_meet : ByteArray := prog_4_method_24_code
def yX2_meet : MethodName := ⟨RX2, "meet", "(II)Z"⟩
abbrev cX2_meetings : ByteArray := prog_4_method_25_code
def yX2_meetings : MethodName := ⟨RX2, "meetings", "()I"⟩
abbrev cX2_firstMeeting : ByteArray := prog_4_method_26_code
def yX2_firstMeeting : MethodName := ⟨RX2, "firstMeeting", "()I"⟩
abbrev cX2_strayed : ByteArray := prog_4_method_27_code
def yX2_strayed : MethodName := ⟨RX2, "strayed", "()I"⟩
abbrev cX2_guestsAt : ByteArray := prog_4_method_28_code
def yX2_guestsAt : MethodName := ⟨RX2, "guestsAt", "(I)I"⟩
abbrev cX2_longestOne : ByteArray := prog_4_method_29_code
def yX2_longestOne : MethodName := ⟨RX2, "longestOne", "()I"⟩
abbrev cX2_dearest : ByteArray := prog_4_method_30_code
def yX2_dearest : MethodName := ⟨RX2, "dearest", "()I"⟩
abbrev cX2_bunched : ByteArray := prog_4_method_31_code
def yX2_bunched : MethodName := ⟨RX2, "bunched", "()I"⟩
def RX3 : String := "EveryTwentyMinutes$Kinds"
def TX3 : u_T := fun k => match k with
  | _ => ("", "", "", false)
def tyX3 : Nat → FieldType := fun k => match k with
  | _ => .int
abbrev wsX30 : List Cond := u_ws RX3 TX3 0
theorem nmX3 : ∀ a, a < 0 → ∀ b, b < 0 → a ≠ b → (TX3 a).2.1 ≠ (TX3 b).2.1 := by decide +kernel
theorem tyX3_ok : ∀ k, k < 0 → parseFieldDescriptor (TX3 k).2.2.1 = some (tyX3 k) := by decide +kernel
abbrev cX3_isOne : ByteArray := prog_5_method_2_code
def yX3_isOne : MethodName := ⟨RX3, "isOne", "(I)Z"⟩
abbrev cX3_lasts : ByteArray := prog_5_method_3_code
def yX3_lasts : MethodName := ⟨RX3, "lasts", "(II)I"⟩
abbrev cX3_ready : ByteArray := prog_5_method_4_code
def yX3_ready : MethodName := ⟨RX3, "ready", "(III)I"⟩
abbrev cX3_guests : ByteArray := prog_5_method_5_code
def yX3_guests : MethodName := ⟨RX3, "guests", "(II)I"⟩
abbrev cX3_poses : ByteArray := prog_5_method_6_code
def yX3_poses : MethodName := ⟨RX3, "poses", "(II)I"⟩
def RX4 : String := "EveryTwentyMinutes$Letters"
def TX4 : u_T := fun k => match k with
  | 0 => ("EveryTwentyMinutes$Letters", "letter", "[I", true)
  | _ => ("EveryTwentyMinutes$Letters", "many", "I", false)
def tyX4 : Nat → FieldType := fun k => match k with
  | 0 => .array .int
  | _ => .int
abbrev wsX40 : List Cond := u_ws RX4 TX4 2
theorem nmX4 : ∀ a, a < 2 → ∀ b, b < 2 → a ≠ b → (TX4 a).2.1 ≠ (TX4 b).2.1 := by decide +kernel
theorem tyX4_ok : ∀ k, k < 2 → parseFieldDescriptor (TX4 k).2.2.1 = some (tyX4 k) := by decide +kernel
abbrev cX4_init : ByteArray := prog_6_method_1_code
def yX4_init : MethodName := ⟨RX4, "<init>", "()V"⟩
abbrev cX4_take : ByteArray := prog_6_method_2_code
def yX4_take : MethodName := ⟨RX4, "take", "(I)Z"⟩
abbrev cX4_digitsBehind : ByteArray := prog_6_method_3_code
def yX4_digitsBehind : MethodName := ⟨RX4, "digitsBehind", "(I)I"⟩
abbrev cX4_isDigit : ByteArray := prog_6_method_4_code
def yX4_isDigit : MethodName := ⟨RX4, "isDigit", "(I)Z"⟩
abbrev cX4_faultyPlace : ByteArray := prog_6_method_5_code
def yX4_faultyPlace : MethodName := ⟨RX4, "faultyPlace", "()I"⟩
abbrev cX4_tellTo : ByteArray := prog_6_method_6_code
def yX4_tellTo : MethodName := ⟨RX4, "tellTo", "(LEveryTwentyMinutes$Hall;)I"⟩
abbrev cX4_number : ByteArray := prog_6_method_7_code
def yX4_number : MethodName := ⟨RX4, "number", "(II)I"⟩
abbrev cX4_obeyed : ByteArray := prog_6_method_8_code
def yX4_obeyed : MethodName := ⟨RX4, "obeyed", "(LEveryTwentyMinutes$Hall;I)Z"⟩
abbrev cX4_coupleComes : ByteArray := prog_6_method_9_code
def yX4_coupleComes : MethodName := ⟨RX4, "coupleComes", "(LEveryTwentyMinutes$Hall;I)Z"⟩
abbrev cX4_roomsOpened : ByteArray := prog_6_method_10_code
def yX4_roomsOpened : MethodName := ⟨RX4, "roomsOpened", "(LEveryTwentyMinutes$Hall;I)Z"⟩
abbrev cX4_putFirst : ByteArray := prog_6_method_11_code
def yX4_putFirst : MethodName := ⟨RX4, "putFirst", "(LEveryTwentyMinutes$Hall;I)Z"⟩
abbrev cX4_someWed : ByteArray := prog_6_method_12_code
def yX4_someWed : MethodName := ⟨RX4, "someWed", "(LEveryTwentyMinutes$Hall;I)Z"⟩
abbrev cX4_clerkRests : ByteArray := prog_6_method_13_code
def yX4_clerkRests : MethodName := ⟨RX4, "clerkRests", "(LEveryTwentyMinutes$Hall;I)Z"⟩
def RX5 : String := "EveryTwentyMinutes$Past"
def TX5 : u_T := fun k => match k with
  | 0 => ("EveryTwentyMinutes$Past", "kept", "[LEveryTwentyMinutes$Hall;", true)
  | 1 => ("EveryTwentyMinutes$Past", "oldest", "I", false)
  | _ => ("EveryTwentyMinutes$Past", "many", "I", false)
def tyX5 : Nat → FieldType := fun k => match k with
  | 0 => .array (.object "EveryTwentyMinutes$Hall")
  | 1 => .int
  | _ => .int
abbrev wsX50 : List Cond := u_ws RX5 TX5 3
theorem nmX5 : ∀ a, a < 3 → ∀ b, b < 3 → a ≠ b → (TX5 a).2.1 ≠ (TX5 b).2.1 := by decide +kernel
theorem tyX5_ok : ∀ k, k < 3 → parseFieldDescriptor (TX5 k).2.2.1 = some (tyX5 k) := by decide +kernel
abbrev cX5_init : ByteArray := prog_7_method_1_code
def yX5_init : MethodName := ⟨RX5, "<init>", "()V"⟩
abbrev cX5_keep : ByteArray := prog_7_method_2_code
def yX5_keep : MethodName := ⟨RX5, "keep", "(LEveryTwentyMinutes$Hall;)V"⟩
abbrev cX5_giveBack : ByteArray := prog_7_method_3_code
def yX5_giveBack : MethodName := ⟨RX5, "giveBack", "(LEveryTwentyMinutes$Hall;)Z"⟩
abbrev cX5_forget : ByteArray := prog_7_method_4_code
def yX5_forget : MethodName := ⟨RX5, "forget", "()V"⟩
def RX6 : String := "EveryTwentyMinutes"
def TX6 : u_T := fun k => match k with
  | 0 => ("EveryTwentyMinutes", "now", "LEveryTwentyMinutes$Hall;", true)
  | 1 => ("EveryTwentyMinutes", "trial", "LEveryTwentyMinutes$Hall;", true)
  | 2 => ("EveryTwentyMinutes", "imaged", "LEveryTwentyMinutes$Hall;", true)
  | 3 => ("EveryTwentyMinutes", "hasImage", "Z", false)
  | 4 => ("EveryTwentyMinutes", "past", "LEveryTwentyMinutes$Past;", true)
  | 5 => ("EveryTwentyMinutes", "letters", "LEveryTwentyMinutes$Letters;", true)
  | 6 => ("EveryTwentyMinutes", "bestOrder", "LEveryTwentyMinutes$BestOrder;", true)
  | 7 => ("EveryTwentyMinutes", "turns", "LEveryTwentyMinutes$Fountain;", true)
  | 8 => ("EveryTwentyMinutes", "told", "[I", true)
  | 9 => ("EveryTwentyMinutes", "toldMany", "I", false)
  | _ => ("EveryTwentyMinutes", "refusals", "[I", true)
def tyX6 : Nat → FieldType := fun k => match k with
  | 0 => .object "EveryTwentyMinutes$Hall"
  | 1 => .object "EveryTwentyMinutes$Hall"
  | 2 => .object "EveryTwentyMinutes$Hall"
  | 3 => .boolean
  | 4 => .object "EveryTwentyMinutes$Past"
  | 5 => .object "EveryTwentyMinutes$Letters"
  | 6 => .object "EveryTwentyMinutes$BestOrder"
  | 7 => .object "EveryTwentyMinutes$Fountain"
  | 8 => .array .int
  | 9 => .int
  | _ => .array .int
abbrev wsX60 : List Cond := u_ws RX6 TX6 11
theorem nmX6 : ∀ a, a < 11 → ∀ b, b < 11 → a ≠ b → (TX6 a).2.1 ≠ (TX6 b).2.1 := by decide +kernel
theorem tyX6_ok : ∀ k, k < 11 → parseFieldDescriptor (TX6 k).2.2.1 = some (tyX6 k) := by decide +kernel
abbrev cX6_init : ByteArray := prog_1_method_1_code
def yX6_init : MethodName := ⟨RX6, "<init>", "()V"⟩
abbrev cX6_feed : ByteArray := prog_1_method_2_code
def yX6_feed : MethodName := ⟨RX6, "feed", "(I)I"⟩
abbrev cX6_hall : ByteArray := prog_1_method_3_code
def yX6_hall : MethodName := ⟨RX6, "hall", "()I"⟩
abbrev cX6_coupleOf : ByteArray := prog_1_method_4_code
def yX6_coupleOf : MethodName := ⟨RX6, "coupleOf", "(II)I"⟩
abbrev cX6_order : ByteArray := prog_1_method_5_code
def yX6_order : MethodName := ⟨RX6, "order", "(I)I"⟩
abbrev cX6_free : ByteArray := prog_1_method_6_code
def yX6_free : MethodName := ⟨RX6, "free", "(I)I"⟩
abbrev cX6_couple : ByteArray := prog_1_method_7_code
def yX6_couple : MethodName := ⟨RX6, "couple", "(III)I"⟩
abbrev cX6_rooms : ByteArray := prog_1_method_8_code
def yX6_rooms : MethodName := ⟨RX6, "rooms", "(I)I"⟩
abbrev cX6_weds : ByteArray := prog_1_method_9_code
def yX6_weds : MethodName := ⟨RX6, "weds", "(I)I"⟩
abbrev cX6_pulls : ByteArray := prog_1_method_10_code
def yX6_pulls : MethodName := ⟨RX6, "pulls", "(I)I"⟩
abbrev cX6_slack : ByteArray := prog_1_method_11_code
def yX6_slack : MethodName := ⟨RX6, "slack", "(I)I"⟩
abbrev cX6_rests : ByteArray := prog_1_method_12_code
def yX6_rests : MethodName := ⟨RX6, "rests", "(I)I"⟩
abbrev cX6_back : ByteArray := prog_1_method_13_code
def yX6_back : MethodName := ⟨RX6, "back", "()I"⟩
abbrev cX6_when : ByteArray := prog_1_method_14_code
def yX6_when : MethodName := ⟨RX6, "when", "(II)I"⟩
abbrev cX6_waits : ByteArray := prog_1_method_15_code
def yX6_waits : MethodName := ⟨RX6, "waits", "(I)I"⟩
abbrev cX6_all : ByteArray := prog_1_method_16_code
def yX6_all : MethodName := ⟨RX6, "all", "(I)I"⟩
abbrev cX6_met : ByteArray := prog_1_method_17_code
def yX6_met : MethodName := ⟨RX6, "met", "(I)I"⟩
abbrev cX6_best : ByteArray := prog_1_method_18_code
def yX6_best : MethodName := ⟨RX6, "best", "(I)I"⟩
abbrev cX6_pull : ByteArray := prog_1_method_19_code
def yX6_pull : MethodName := ⟨RX6, "pull", "()I"⟩
abbrev cX6_bestSlack : ByteArray := prog_1_method_20_code
def yX6_bestSlack : MethodName := ⟨RX6, "bestSlack", "(I)I"⟩
abbrev cX6_rest : ByteArray := prog_1_method_21_code
def yX6_rest : MethodName := ⟨RX6, "rest", "()I"⟩
abbrev cX6_saved : ByteArray := prog_1_method_22_code
def yX6_saved : MethodName := ⟨RX6, "saved", "()I"⟩
abbrev cX6_can : ByteArray := prog_1_method_23_code
def yX6_can : MethodName := ⟨RX6, "can", "(III)I"⟩
abbrev cX6_fountain : ByteArray := prog_1_method_24_code
def yX6_fountain : MethodName := ⟨RX6, "fountain", "(I)I"⟩
abbrev cX6_fountains : ByteArray := prog_1_method_25_code
def yX6_fountains : MethodName := ⟨RX6, "fountains", "(I)I"⟩
abbrev cX6_inside : ByteArray := prog_1_method_26_code
def yX6_inside : MethodName := ⟨RX6, "inside", "(I)I"⟩
abbrev cX6_crowded : ByteArray := prog_1_method_27_code
def yX6_crowded : MethodName := ⟨RX6, "crowded", "()I"⟩
abbrev cX6_price : ByteArray := prog_1_method_28_code
def yX6_price : MethodName := ⟨RX6, "price", "(I)I"⟩
abbrev cX6_odds : ByteArray := prog_1_method_29_code
def yX6_odds : MethodName := ⟨RX6, "odds", "(IIII)J"⟩
abbrev cX6_two : ByteArray := prog_1_method_30_code
def yX6_two : MethodName := ⟨RX6, "two", "(II)I"⟩
abbrev cX6_whatWas : ByteArray := prog_1_method_31_code
def yX6_whatWas : MethodName := ⟨RX6, "whatWas", "(II)I"⟩
abbrev cX6_longest : ByteArray := prog_1_method_32_code
def yX6_longest : MethodName := ⟨RX6, "longest", "(I)I"⟩
abbrev cX6_mean : ByteArray := prog_1_method_33_code
def yX6_mean : MethodName := ⟨RX6, "mean", "(I)J"⟩
abbrev cX6_early : ByteArray := prog_1_method_34_code
def yX6_early : MethodName := ⟨RX6, "early", "()I"⟩
abbrev cX6_worst : ByteArray := prog_1_method_35_code
def yX6_worst : MethodName := ⟨RX6, "worst", "()I"⟩
abbrev cX6_idle : ByteArray := prog_1_method_36_code
def yX6_idle : MethodName := ⟨RX6, "idle", "()I"⟩
abbrev cX6_span : ByteArray := prog_1_method_37_code
def yX6_span : MethodName := ⟨RX6, "span", "()I"⟩
abbrev cX6_swap : ByteArray := prog_1_method_38_code
def yX6_swap : MethodName := ⟨RX6, "swap", "()I"⟩
abbrev cX6_turned : ByteArray := prog_1_method_39_code
def yX6_turned : MethodName := ⟨RX6, "turned", "()I"⟩
abbrev cX6_shift : ByteArray := prog_1_method_40_code
def yX6_shift : MethodName := ⟨RX6, "shift", "()I"⟩
abbrev cX6_row : ByteArray := prog_1_method_41_code
def yX6_row : MethodName := ⟨RX6, "row", "(I)I"⟩
abbrev cX6_judge : ByteArray := prog_1_method_42_code
def yX6_judge : MethodName := ⟨RX6, "judge", "()I"⟩
abbrev cX6_clear : ByteArray := prog_1_method_43_code
def yX6_clear : MethodName := ⟨RX6, "clear", "()I"⟩
abbrev cX6_lots : ByteArray := prog_1_method_44_code
def yX6_lots : MethodName := ⟨RX6, "lots", "(III)I"⟩
abbrev cX6_image : ByteArray := prog_1_method_45_code
def yX6_image : MethodName := ⟨RX6, "image", "()I"⟩
abbrev cX6_restore : ByteArray := prog_1_method_46_code
def yX6_restore : MethodName := ⟨RX6, "restore", "()I"⟩
abbrev cX6_count : ByteArray := prog_1_method_47_code
def yX6_count : MethodName := ⟨RX6, "count", "(I)I"⟩
abbrev cX6_refused : ByteArray := prog_1_method_48_code
def yX6_refused : MethodName := ⟨RX6, "refused", "(I)I"⟩
abbrev cX6_asNow : ByteArray := prog_1_method_49_code
def yX6_asNow : MethodName := ⟨RX6, "asNow", "()LEveryTwentyMinutes$Hall;"⟩
abbrev cX6_inMind : ByteArray := prog_1_method_50_code
def yX6_inMind : MethodName := ⟨RX6, "inMind", "()LEveryTwentyMinutes$Hall;"⟩
abbrev cX6_lateBy : ByteArray := prog_1_method_51_code
def yX6_lateBy : MethodName := ⟨RX6, "lateBy", "(LEveryTwentyMinutes$Hall;)I"⟩
abbrev cX6_askedBy : ByteArray := prog_1_method_52_code
def yX6_askedBy : MethodName := ⟨RX6, "askedBy", "(IIII)LEveryTwentyMinutes$Hall;"⟩
abbrev cX6_oneIsContent : ByteArray := prog_1_method_53_code
def yX6_oneIsContent : MethodName := ⟨RX6, "oneIsContent", "(IIII)Z"⟩
abbrev cX6_otherIsContent : ByteArray := prog_1_method_54_code
def yX6_otherIsContent : MethodName := ⟨RX6, "otherIsContent", "(IIII)Z"⟩
abbrev cX6_kindsTold : ByteArray := prog_1_method_55_code
def yX6_kindsTold : MethodName := ⟨RX6, "kindsTold", "(I)I"⟩
abbrev cX6_figuresTold : ByteArray := prog_1_method_56_code
def yX6_figuresTold : MethodName := ⟨RX6, "figuresTold", "(I)I"⟩
abbrev cX6_minutesTold : ByteArray := prog_1_method_57_code
def yX6_minutesTold : MethodName := ⟨RX6, "minutesTold", "(IZ)I"⟩
abbrev cX6_endsAsTold : ByteArray := prog_1_method_58_code
def yX6_endsAsTold : MethodName := ⟨RX6, "endsAsTold", "(LEveryTwentyMinutes$Hall;)Z"⟩
abbrev cX6_power : ByteArray := prog_1_method_59_code
def yX6_power : MethodName := ⟨RX6, "power", "(II)J"⟩
abbrev cX6_lowest : ByteArray := prog_1_method_60_code
def yX6_lowest : MethodName := ⟨RX6, "lowest", "(JJI)J"⟩
def RX7 : String := "EveryTwentyMinutesModel"
def TX7 : u_T := fun k => match k with
  | 0 => ("EveryTwentyMinutesModel", "many", "I", false)
  | 1 => ("EveryTwentyMinutesModel", "kinds", "[I", true)
  | 2 => ("EveryTwentyMinutesModel", "figures", "[I", true)
  | 3 => ("EveryTwentyMinutesModel", "ats", "[I", true)
  | 4 => ("EveryTwentyMinutesModel", "weds0", "[I", true)
  | 5 => ("EveryTwentyMinutesModel", "begins", "[I", true)
  | 6 => ("EveryTwentyMinutesModel", "ends", "[I", true)
  | 7 => ("EveryTwentyMinutesModel", "roomOf", "[I", true)
  | 8 => ("EveryTwentyMinutesModel", "line", "[I", true)
  | 9 => ("EveryTwentyMinutesModel", "lined", "I", false)
  | 10 => ("EveryTwentyMinutesModel", "rooms0", "I", false)
  | 11 => ("EveryTwentyMinutesModel", "frees", "[I", true)
  | 12 => ("EveryTwentyMinutesModel", "tired", "I", false)
  | 13 => ("EveryTwentyMinutesModel", "slack0", "I", false)
  | 14 => ("EveryTwentyMinutesModel", "thrown", "I", false)
  | 15 => ("EveryTwentyMinutesModel", "refusals", "[I", true)
  | 16 => ("EveryTwentyMinutesModel", "letters", "[I", true)
  | 17 => ("EveryTwentyMinutesModel", "letterMany", "I", false)
  | 18 => ("EveryTwentyMinutesModel", "at0", "I", false)
  | 19 => ("EveryTwentyMinutesModel", "isBad", "Z", false)
  | 20 => ("EveryTwentyMinutesModel", "statements", "I", false)
  | 21 => ("EveryTwentyMinutesModel", "placeIn", "[I", true)
  | 22 => ("EveryTwentyMinutesModel", "letterOf", "[I", true)
  | 23 => ("EveryTwentyMinutesModel", "told", "[I", true)
  | 24 => ("EveryTwentyMinutesModel", "kept", "[I", true)
  | 25 => ("EveryTwentyMinutesModel", "imaged", "[I", true)
  | 26 => ("EveryTwentyMinutesModel", "hasImage", "Z", false)
  | 27 => ("EveryTwentyMinutesModel", "place0", "I", false)
  | 28 => ("EveryTwentyMinutesModel", "isTaking", "Z", false)
  | 29 => ("EveryTwentyMinutesModel", "keptIn", "[I", false)
  | 30 => ("EveryTwentyMinutesModel", "turns0", "[I", true)
  | 31 => ("EveryTwentyMinutesModel", "turnOf", "[I", true)
  | 32 => ("EveryTwentyMinutesModel", "turned0", "I", false)
  | 33 => ("EveryTwentyMinutesModel", "sorted", "[I", true)
  | 34 => ("EveryTwentyMinutesModel", "poseFrom", "[I", true)
  | 35 => ("EveryTwentyMinutesModel", "costs", "[I", true)
  | 36 => ("EveryTwentyMinutesModel", "row", "[I", true)
  | 37 => ("EveryTwentyMinutesModel", "rowMany", "I", false)
  | _ => ("EveryTwentyMinutesModel", "seed", "I", false)
def tyX7 : Nat → FieldType := fun k => match k with
  | 0 => .int
  | 1 => .array .int
  | 2 => .array .int
  | 3 => .array .int
  | 4 => .array .int
  | 5 => .array .int
  | 6 => .array .int
  | 7 => .array .int
  | 8 => .array .int
  | 9 => .int
  | 10 => .int
  | 11 => .array .int
  | 12 => .int
  | 13 => .int
  | 14 => .int
  | 15 => .array .int
  | 16 => .array .int
  | 17 => .int
  | 18 => .int
  | 19 => .boolean
  | 20 => .int
  | 21 => .array .int
  | 22 => .array .int
  | 23 => .array .int
  | 24 => .array .int
  | 25 => .array .int
  | 26 => .boolean
  | 27 => .int
  | 28 => .boolean
  | 29 => .array .int
  | 30 => .array .int
  | 31 => .array .int
  | 32 => .int
  | 33 => .array .int
  | 34 => .array .int
  | 35 => .array .int
  | 36 => .array .int
  | 37 => .int
  | _ => .int
abbrev wsX70 : List Cond := u_ws RX7 TX7 39
theorem nmX7 : ∀ a, a < 39 → ∀ b, b < 39 → a ≠ b → (TX7 a).2.1 ≠ (TX7 b).2.1 := by decide +kernel
theorem tyX7_ok : ∀ k, k < 39 → parseFieldDescriptor (TX7 k).2.2.1 = some (tyX7 k) := by decide +kernel
abbrev cX7_init : ByteArray := prog_9_method_1_code
def yX7_init : MethodName := ⟨RX7, "<init>", "()V"⟩
abbrev cX7_in : ByteArray := prog_9_method_3_code
def yX7_in : MethodName := ⟨RX7, "in", "(JJJ)Z"⟩
abbrev cX7_refuse : ByteArray := prog_9_method_4_code
def yX7_refuse : MethodName := ⟨RX7, "refuse", "(I)I"⟩
abbrev cX7_isCouple : ByteArray := prog_9_method_5_code
def yX7_isCouple : MethodName := ⟨RX7, "isCouple", "(I)Z"⟩
abbrev cX7_wrongNumber : ByteArray := prog_9_method_6_code
def yX7_wrongNumber : MethodName := ⟨RX7, "wrongNumber", "(III)I"⟩
abbrev cX7_wrongBit : ByteArray := prog_9_method_7_code
def yX7_wrongBit : MethodName := ⟨RX7, "wrongBit", "(III)I"⟩
abbrev cX7_hasBit : ByteArray := prog_9_method_8_code
def yX7_hasBit : MethodName := ⟨RX7, "hasBit", "(II)Z"⟩
abbrev cX7_least : ByteArray := prog_9_method_9_code
def yX7_least : MethodName := ⟨RX7, "least", "(II)I"⟩
abbrev cX7_most : ByteArray := prog_9_method_10_code
def yX7_most : MethodName := ⟨RX7, "most", "(II)I"⟩
abbrev cX7_lastsBy : ByteArray := prog_9_method_11_code
def yX7_lastsBy : MethodName := ⟨RX7, "lastsBy", "(II)I"⟩
abbrev cX7_readyOf : ByteArray := prog_9_method_12_code
def yX7_readyOf : MethodName := ⟨RX7, "readyOf", "(I)I"⟩
abbrev cX7_guestsOf : ByteArray := prog_9_method_13_code
def yX7_guestsOf : MethodName := ⟨RX7, "guestsOf", "(I)I"⟩
abbrev cX7_posesOf : ByteArray := prog_9_method_14_code
def yX7_posesOf : MethodName := ⟨RX7, "posesOf", "(I)I"⟩
abbrev cX7_restFor : ByteArray := prog_9_method_15_code
def yX7_restFor : MethodName := ⟨RX7, "restFor", "(I)V"⟩
abbrev cX7_firstOff : ByteArray := prog_9_method_16_code
def yX7_firstOff : MethodName := ⟨RX7, "firstOff", "()I"⟩
abbrev cX7_wedOne : ByteArray := prog_9_method_17_code
def yX7_wedOne : MethodName := ⟨RX7, "wedOne", "(I)V"⟩
abbrev cX7_wedAll : ByteArray := prog_9_method_18_code
def yX7_wedAll : MethodName := ⟨RX7, "wedAll", "()V"⟩
abbrev cX7_lateOf : ByteArray := prog_9_method_19_code
def yX7_lateOf : MethodName := ⟨RX7, "lateOf", "(I)I"⟩
abbrev cX7_allLate : ByteArray := prog_9_method_20_code
def yX7_allLate : MethodName := ⟨RX7, "allLate", "()I"⟩
abbrev cX7_lastEnd : ByteArray := prog_9_method_21_code
def yX7_lastEnd : MethodName := ⟨RX7, "lastEnd", "()I"⟩
abbrev cX7_isNear : ByteArray := prog_9_method_22_code
def yX7_isNear : MethodName := ⟨RX7, "isNear", "(II)Z"⟩
abbrev cX7_meet : ByteArray := prog_9_method_23_code
def yX7_meet : MethodName := ⟨RX7, "meet", "(II)Z"⟩
abbrev cX7_meetMany : ByteArray := prog_9_method_24_code
def yX7_meetMany : MethodName := ⟨RX7, "meetMany", "()I"⟩
abbrev cX7_placeOf : ByteArray := prog_9_method_25_code
def yX7_placeOf : MethodName := ⟨RX7, "placeOf", "(I)I"⟩
abbrev cX7_putFirst : ByteArray := prog_9_method_26_code
def yX7_putFirst : MethodName := ⟨RX7, "putFirst", "(I)V"⟩
abbrev cX7_coupleComes : ByteArray := prog_9_method_27_code
def yX7_coupleComes : MethodName := ⟨RX7, "coupleComes", "(III)Z"⟩
abbrev cX7_roomsBecome : ByteArray := prog_9_method_28_code
def yX7_roomsBecome : MethodName := ⟨RX7, "roomsBecome", "(I)V"⟩
abbrev cX7_feed : ByteArray := prog_9_method_29_code
def yX7_feed : MethodName := ⟨RX7, "feed", "(I)I"⟩
abbrev cX7_here : ByteArray := prog_9_method_30_code
def yX7_here : MethodName := ⟨RX7, "here", "()I"⟩
abbrev cX7_readDigits : ByteArray := prog_9_method_31_code
def yX7_readDigits : MethodName := ⟨RX7, "readDigits", "(I)I"⟩
abbrev cX7_isLetter : ByteArray := prog_9_method_32_code
def yX7_isLetter : MethodName := ⟨RX7, "isLetter", "(I)Z"⟩
abbrev cX7_readStatement : ByteArray := prog_9_method_33_code
def yX7_readStatement : MethodName := ⟨RX7, "readStatement", "()V"⟩
abbrev cX7_wedsCome : ByteArray := prog_9_method_34_code
def yX7_wedsCome : MethodName := ⟨RX7, "wedsCome", "(I)Z"⟩
abbrev cX7_comesTold : ByteArray := prog_9_method_35_code
def yX7_comesTold : MethodName := ⟨RX7, "comesTold", "(I)Z"⟩
abbrev cX7_hall : ByteArray := prog_9_method_36_code
def yX7_hall : MethodName := ⟨RX7, "hall", "()I"⟩
abbrev cX7_carry : ByteArray := prog_9_method_37_code
def yX7_carry : MethodName := ⟨RX7, "carry", "(I)I"⟩
abbrev cX7_carryAll : ByteArray := prog_9_method_38_code
def yX7_carryAll : MethodName := ⟨RX7, "carryAll", "([IZ)V"⟩
abbrev cX7_think : ByteArray := prog_9_method_39_code
def yX7_think : MethodName := ⟨RX7, "think", "()V"⟩
abbrev cX7_again : ByteArray := prog_9_method_40_code
def yX7_again : MethodName := ⟨RX7, "again", "()V"⟩
abbrev cX7_image : ByteArray := prog_9_method_41_code
def yX7_image : MethodName := ⟨RX7, "image", "()I"⟩
abbrev cX7_restore : ByteArray := prog_9_method_42_code
def yX7_restore : MethodName := ⟨RX7, "restore", "()I"⟩
abbrev cX7_keepTurn : ByteArray := prog_9_method_43_code
def yX7_keepTurn : MethodName := ⟨RX7, "keepTurn", "()V"⟩
abbrev cX7_back : ByteArray := prog_9_method_44_code
def yX7_back : MethodName := ⟨RX7, "back", "()I"⟩
abbrev cX7_coupleOf : ByteArray := prog_9_method_45_code
def yX7_coupleOf : MethodName := ⟨RX7, "coupleOf", "(II)I"⟩
abbrev cX7_order : ByteArray := prog_9_method_46_code
def yX7_order : MethodName := ⟨RX7, "order", "(I)I"⟩
abbrev cX7_free : ByteArray := prog_9_method_47_code
def yX7_free : MethodName := ⟨RX7, "free", "(I)I"⟩
abbrev cX7_couple : ByteArray := prog_9_method_48_code
def yX7_couple : MethodName := ⟨RX7, "couple", "(III)I"⟩
abbrev cX7_rooms : ByteArray := prog_9_method_49_code
def yX7_rooms : MethodName := ⟨RX7, "rooms", "(I)I"⟩
abbrev cX7_weds : ByteArray := prog_9_method_50_code
def yX7_weds : MethodName := ⟨RX7, "weds", "(I)I"⟩
abbrev cX7_pulls : ByteArray := prog_9_method_51_code
def yX7_pulls : MethodName := ⟨RX7, "pulls", "(I)I"⟩
abbrev cX7_slack : ByteArray := prog_9_method_52_code
def yX7_slack : MethodName := ⟨RX7, "slack", "(I)I"⟩
abbrev cX7_rests : ByteArray := prog_9_method_53_code
def yX7_rests : MethodName := ⟨RX7, "rests", "(I)I"⟩
abbrev cX7_when : ByteArray := prog_9_method_54_code
def yX7_when : MethodName := ⟨RX7, "when", "(II)I"⟩
abbrev cX7_waits : ByteArray := prog_9_method_55_code
def yX7_waits : MethodName := ⟨RX7, "waits", "(I)I"⟩
abbrev cX7_all : ByteArray := prog_9_method_56_code
def yX7_all : MethodName := ⟨RX7, "all", "(I)I"⟩
abbrev cX7_firstMet : ByteArray := prog_9_method_57_code
def yX7_firstMet : MethodName := ⟨RX7, "firstMet", "()I"⟩
abbrev cX7_strayedOne : ByteArray := prog_9_method_58_code
def yX7_strayedOne : MethodName := ⟨RX7, "strayedOne", "()I"⟩
abbrev cX7_met : ByteArray := prog_9_method_59_code
def yX7_met : MethodName := ⟨RX7, "met", "(I)I"⟩
abbrev cX7_laySorted : ByteArray := prog_9_method_60_code
def yX7_laySorted : MethodName := ⟨RX7, "laySorted", "()V"⟩
abbrev cX7_ordersOf : ByteArray := prog_9_method_61_code
def yX7_ordersOf : MethodName := ⟨RX7, "ordersOf", "(I)I"⟩
abbrev cX7_layOrder : ByteArray := prog_9_method_62_code
def yX7_layOrder : MethodName := ⟨RX7, "layOrder", "(I)V"⟩
abbrev cX7_lateNow : ByteArray := prog_9_method_63_code
def yX7_lateNow : MethodName := ⟨RX7, "lateNow", "()I"⟩
abbrev cX7_best : ByteArray := prog_9_method_64_code
def yX7_best : MethodName := ⟨RX7, "best", "(I)I"⟩
abbrev cX7_pull : ByteArray := prog_9_method_65_code
def yX7_pull : MethodName := ⟨RX7, "pull", "()I"⟩
abbrev cX7_bestSlack : ByteArray := prog_9_method_66_code
def yX7_bestSlack : MethodName := ⟨RX7, "bestSlack", "(I)I"⟩
abbrev cX7_rest : ByteArray := prog_9_method_67_code
def yX7_rest : MethodName := ⟨RX7, "rest", "()I"⟩
abbrev cX7_saved : ByteArray := prog_9_method_68_code
def yX7_saved : MethodName := ⟨RX7, "saved", "()I"⟩
abbrev cX7_can : ByteArray := prog_9_method_69_code
def yX7_can : MethodName := ⟨RX7, "can", "(III)I"⟩
abbrev cX7_nextPosing : ByteArray := prog_9_method_70_code
def yX7_nextPosing : MethodName := ⟨RX7, "nextPosing", "(I)I"⟩
abbrev cX7_pose : ByteArray := prog_9_method_71_code
def yX7_pose : MethodName := ⟨RX7, "pose", "()I"⟩
abbrev cX7_fountain : ByteArray := prog_9_method_72_code
def yX7_fountain : MethodName := ⟨RX7, "fountain", "(I)I"⟩
abbrev cX7_fountains : ByteArray := prog_9_method_73_code
def yX7_fountains : MethodName := ⟨RX7, "fountains", "(I)I"⟩
abbrev cX7_insideAt : ByteArray := prog_9_method_74_code
def yX7_insideAt : MethodName := ⟨RX7, "insideAt", "(I)I"⟩
abbrev cX7_inside : ByteArray := prog_9_method_75_code
def yX7_inside : MethodName := ⟨RX7, "inside", "(I)I"⟩
abbrev cX7_crowded : ByteArray := prog_9_method_76_code
def yX7_crowded : MethodName := ⟨RX7, "crowded", "()I"⟩
abbrev cX7_price : ByteArray := prog_9_method_77_code
def yX7_price : MethodName := ⟨RX7, "price", "(I)I"⟩
abbrev cX7_divisor : ByteArray := prog_9_method_78_code
def yX7_divisor : MethodName := ⟨RX7, "divisor", "(JJ)J"⟩
abbrev cX7_partOf : ByteArray := prog_9_method_79_code
def yX7_partOf : MethodName := ⟨RX7, "partOf", "(JJI)J"⟩
abbrev cX7_odds : ByteArray := prog_9_method_80_code
def yX7_odds : MethodName := ⟨RX7, "odds", "(IIII)J"⟩
abbrev cX7_two : ByteArray := prog_9_method_81_code
def yX7_two : MethodName := ⟨RX7, "two", "(II)I"⟩
abbrev cX7_isRow : ByteArray := prog_9_method_82_code
def yX7_isRow : MethodName := ⟨RX7, "isRow", "()Z"⟩
abbrev cX7_whenBy : ByteArray := prog_9_method_83_code
def yX7_whenBy : MethodName := ⟨RX7, "whenBy", "(II)I"⟩
abbrev cX7_whatWas : ByteArray := prog_9_method_84_code
def yX7_whatWas : MethodName := ⟨RX7, "whatWas", "(II)I"⟩
abbrev cX7_longest : ByteArray := prog_9_method_85_code
def yX7_longest : MethodName := ⟨RX7, "longest", "(I)I"⟩
abbrev cX7_mean : ByteArray := prog_9_method_86_code
def yX7_mean : MethodName := ⟨RX7, "mean", "(I)J"⟩
abbrev cX7_early : ByteArray := prog_9_method_87_code
def yX7_early : MethodName := ⟨RX7, "early", "()I"⟩
abbrev cX7_worst : ByteArray := prog_9_method_88_code
def yX7_worst : MethodName := ⟨RX7, "worst", "()I"⟩
abbrev cX7_idle : ByteArray := prog_9_method_89_code
def yX7_idle : MethodName := ⟨RX7, "idle", "()I"⟩
abbrev cX7_span : ByteArray := prog_9_method_90_code
def yX7_span : MethodName := ⟨RX7, "span", "()I"⟩
abbrev cX7_swap : ByteArray := prog_9_method_91_code
def yX7_swap : MethodName := ⟨RX7, "swap", "()I"⟩
abbrev cX7_turned : ByteArray := prog_9_method_92_code
def yX7_turned : MethodName := ⟨RX7, "turned", "()I"⟩
abbrev cX7_unwed : ByteArray := prog_9_method_93_code
def yX7_unwed : MethodName := ⟨RX7, "unwed", "()I"⟩
abbrev cX7_shift : ByteArray := prog_9_method_94_code
def yX7_shift : MethodName := ⟨RX7, "shift", "()I"⟩
abbrev cX7_row : ByteArray := prog_9_method_95_code
def yX7_row : MethodName := ⟨RX7, "row", "(I)I"⟩
abbrev cX7_judge : ByteArray := prog_9_method_96_code
def yX7_judge : MethodName := ⟨RX7, "judge", "()I"⟩
abbrev cX7_clear : ByteArray := prog_9_method_97_code
def yX7_clear : MethodName := ⟨RX7, "clear", "()I"⟩
abbrev cX7_drawBelow : ByteArray := prog_9_method_98_code
def yX7_drawBelow : MethodName := ⟨RX7, "drawBelow", "(I)I"⟩
abbrev cX7_lots : ByteArray := prog_9_method_99_code
def yX7_lots : MethodName := ⟨RX7, "lots", "(III)I"⟩
abbrev cX7_count : ByteArray := prog_9_method_100_code
def yX7_count : MethodName := ⟨RX7, "count", "(I)I"⟩
def RJ6 : String := "java/lang/Integer"
abbrev cJ6_bitCount_0f7a4 : ByteArray := prog_10_method_49_code
def yJ6_bitCount_0f7a4 : MethodName := ⟨RJ6, "bitCount", "(I)I"⟩
def RL : String := "EveryTwentyMinutesLaw"
abbrev cL_law : ByteArray := code
def yL_law : MethodName := ⟨RL, "law", "([I)Z"⟩
abbrev vwCl : List vw_C := [(RX0, TX0, 5), (RX1, TX1, 3), (RX2, TX2, 14), (RX4, TX4, 2), (RX5, TX5, 3), (RX6, TX6, 11), (RX7, TX7, 39)]
