section
-- ===== PART A: goes FIRST, ahead of the names: the tables' words, and 'selects' of the private methods out of them =====
/-- a private method of a class that the tables say can be made, by its rows of tables_1 -/
def lw_okq (q : MethodName × Nat) : Prop := (q.1.cls ≠ "java/lang/invoke/MethodHandle" ∧ q.1.cls ≠ "java/lang/invoke/VarHandle") ∧ Cond.instantiable q.1.cls q.2 ∈ tables_1 ∧ Cond.privateMethod q.1 ∈ tables_1 ∧ Cond.instanceMethod q.1 ∈ tables_1
theorem lw_p0 : lw_okq (⟨"EveryTwentyMinutes", "refused", "(I)I"⟩, 11) := ⟨⟨by decide +kernel, by decide +kernel⟩, List.mem_of_getElem? (i := 13) (by decide +kernel), List.mem_of_getElem? (i := 214) (by decide +kernel), List.mem_of_getElem? (i := 215) (by decide +kernel)⟩
theorem lw_p1 : lw_okq (⟨"EveryTwentyMinutes$Letters", "isDigit", "(I)Z"⟩, 2) := ⟨⟨by decide +kernel, by decide +kernel⟩, List.mem_of_getElem? (i := 116) (by decide +kernel), List.mem_of_getElem? (i := 233) (by decide +kernel), List.mem_of_getElem? (i := 234) (by decide +kernel)⟩
theorem lw_p2 : lw_okq (⟨"EveryTwentyMinutes", "asNow", "()LEveryTwentyMinutes$Hall;"⟩, 11) := ⟨⟨by decide +kernel, by decide +kernel⟩, List.mem_of_getElem? (i := 13) (by decide +kernel), List.mem_of_getElem? (i := 237) (by decide +kernel), List.mem_of_getElem? (i := 238) (by decide +kernel)⟩
theorem lw_p3 : lw_okq (⟨"EveryTwentyMinutes$Letters", "obeyed", "(LEveryTwentyMinutes$Hall;I)Z"⟩, 2) := ⟨⟨by decide +kernel, by decide +kernel⟩, List.mem_of_getElem? (i := 116) (by decide +kernel), List.mem_of_getElem? (i := 252) (by decide +kernel), List.mem_of_getElem? (i := 253) (by decide +kernel)⟩
theorem lw_p4 : lw_okq (⟨"EveryTwentyMinutes$Letters", "coupleComes", "(LEveryTwentyMinutes$Hall;I)Z"⟩, 2) := ⟨⟨by decide +kernel, by decide +kernel⟩, List.mem_of_getElem? (i := 116) (by decide +kernel), List.mem_of_getElem? (i := 256) (by decide +kernel), List.mem_of_getElem? (i := 257) (by decide +kernel)⟩
theorem lw_p5 : lw_okq (⟨"EveryTwentyMinutes$Letters", "number", "(II)I"⟩, 2) := ⟨⟨by decide +kernel, by decide +kernel⟩, List.mem_of_getElem? (i := 116) (by decide +kernel), List.mem_of_getElem? (i := 260) (by decide +kernel), List.mem_of_getElem? (i := 261) (by decide +kernel)⟩
theorem lw_p6 : lw_okq (⟨"EveryTwentyMinutes", "inMind", "()LEveryTwentyMinutes$Hall;"⟩, 11) := ⟨⟨by decide +kernel, by decide +kernel⟩, List.mem_of_getElem? (i := 13) (by decide +kernel), List.mem_of_getElem? (i := 424) (by decide +kernel), List.mem_of_getElem? (i := 425) (by decide +kernel)⟩
theorem lw_p7 : lw_okq (⟨"EveryTwentyMinutes", "oneIsContent", "(IIII)Z"⟩, 11) := ⟨⟨by decide +kernel, by decide +kernel⟩, List.mem_of_getElem? (i := 13) (by decide +kernel), List.mem_of_getElem? (i := 587) (by decide +kernel), List.mem_of_getElem? (i := 588) (by decide +kernel)⟩
theorem lw_p8 : lw_okq (⟨"EveryTwentyMinutes", "askedBy", "(IIII)LEveryTwentyMinutes$Hall;"⟩, 11) := ⟨⟨by decide +kernel, by decide +kernel⟩, List.mem_of_getElem? (i := 13) (by decide +kernel), List.mem_of_getElem? (i := 591) (by decide +kernel), List.mem_of_getElem? (i := 592) (by decide +kernel)⟩
theorem lw_p9 : lw_okq (⟨"EveryTwentyMinutes", "otherIsContent", "(IIII)Z"⟩, 11) := ⟨⟨by decide +kernel, by decide +kernel⟩, List.mem_of_getElem? (i := 13) (by decide +kernel), List.mem_of_getElem? (i := 595) (by decide +kernel), List.mem_of_getElem? (i := 596) (by decide +kernel)⟩
theorem lw_p10 : lw_okq (⟨"EveryTwentyMinutes", "kindsTold", "(I)I"⟩, 11) := ⟨⟨by decide +kernel, by decide +kernel⟩, List.mem_of_getElem? (i := 13) (by decide +kernel), List.mem_of_getElem? (i := 603) (by decide +kernel), List.mem_of_getElem? (i := 604) (by decide +kernel)⟩
theorem lw_p11 : lw_okq (⟨"EveryTwentyMinutes", "endsAsTold", "(LEveryTwentyMinutes$Hall;)Z"⟩, 11) := ⟨⟨by decide +kernel, by decide +kernel⟩, List.mem_of_getElem? (i := 13) (by decide +kernel), List.mem_of_getElem? (i := 607) (by decide +kernel), List.mem_of_getElem? (i := 608) (by decide +kernel)⟩
theorem lw_p12 : lw_okq (⟨"EveryTwentyMinutes", "figuresTold", "(I)I"⟩, 11) := ⟨⟨by decide +kernel, by decide +kernel⟩, List.mem_of_getElem? (i := 13) (by decide +kernel), List.mem_of_getElem? (i := 611) (by decide +kernel), List.mem_of_getElem? (i := 612) (by decide +kernel)⟩
theorem lw_p13 : lw_okq (⟨"EveryTwentyMinutes", "minutesTold", "(IZ)I"⟩, 11) := ⟨⟨by decide +kernel, by decide +kernel⟩, List.mem_of_getElem? (i := 13) (by decide +kernel), List.mem_of_getElem? (i := 615) (by decide +kernel), List.mem_of_getElem? (i := 616) (by decide +kernel)⟩
theorem lw_p14 : lw_okq (⟨"EveryTwentyMinutesModel", "refuse", "(I)I"⟩, 39) := ⟨⟨by decide +kernel, by decide +kernel⟩, List.mem_of_getElem? (i := 704) (by decide +kernel), List.mem_of_getElem? (i := 832) (by decide +kernel), List.mem_of_getElem? (i := 833) (by decide +kernel)⟩
theorem lw_p15 : lw_okq (⟨"EveryTwentyMinutesModel", "readStatement", "()V"⟩, 39) := ⟨⟨by decide +kernel, by decide +kernel⟩, List.mem_of_getElem? (i := 704) (by decide +kernel), List.mem_of_getElem? (i := 840) (by decide +kernel), List.mem_of_getElem? (i := 841) (by decide +kernel)⟩
def lw_privs_1 : List (MethodName × Nat) := [(⟨"EveryTwentyMinutes", "refused", "(I)I"⟩, 11), (⟨"EveryTwentyMinutes$Letters", "isDigit", "(I)Z"⟩, 2), (⟨"EveryTwentyMinutes", "asNow", "()LEveryTwentyMinutes$Hall;"⟩, 11), (⟨"EveryTwentyMinutes$Letters", "obeyed", "(LEveryTwentyMinutes$Hall;I)Z"⟩, 2), (⟨"EveryTwentyMinutes$Letters", "coupleComes", "(LEveryTwentyMinutes$Hall;I)Z"⟩, 2), (⟨"EveryTwentyMinutes$Letters", "number", "(II)I"⟩, 2), (⟨"EveryTwentyMinutes", "inMind", "()LEveryTwentyMinutes$Hall;"⟩, 11), (⟨"EveryTwentyMinutes", "oneIsContent", "(IIII)Z"⟩, 11), (⟨"EveryTwentyMinutes", "askedBy", "(IIII)LEveryTwentyMinutes$Hall;"⟩, 11), (⟨"EveryTwentyMinutes", "otherIsContent", "(IIII)Z"⟩, 11), (⟨"EveryTwentyMinutes", "kindsTold", "(I)I"⟩, 11), (⟨"EveryTwentyMinutes", "endsAsTold", "(LEveryTwentyMinutes$Hall;)Z"⟩, 11), (⟨"EveryTwentyMinutes", "figuresTold", "(I)I"⟩, 11), (⟨"EveryTwentyMinutes", "minutesTold", "(IZ)I"⟩, 11), (⟨"EveryTwentyMinutesModel", "refuse", "(I)I"⟩, 39), (⟨"EveryTwentyMinutesModel", "readStatement", "()V"⟩, 39)]
theorem lw_r1 : ∀ q ∈ lw_privs_1, lw_okq q := List.forall_mem_cons.mpr ⟨lw_p0, List.forall_mem_cons.mpr ⟨lw_p1, List.forall_mem_cons.mpr ⟨lw_p2, List.forall_mem_cons.mpr ⟨lw_p3, List.forall_mem_cons.mpr ⟨lw_p4, List.forall_mem_cons.mpr ⟨lw_p5, List.forall_mem_cons.mpr ⟨lw_p6, List.forall_mem_cons.mpr ⟨lw_p7, List.forall_mem_cons.mpr ⟨lw_p8, List.forall_mem_cons.mpr ⟨lw_p9, List.forall_mem_cons.mpr ⟨lw_p10, List.forall_mem_cons.mpr ⟨lw_p11, List.forall_mem_cons.mpr ⟨lw_p12, List.forall_mem_cons.mpr ⟨lw_p13, List.forall_mem_cons.mpr ⟨lw_p14, List.forall_mem_cons.mpr ⟨lw_p15, fun _ h => absurd h List.not_mem_nil⟩⟩⟩⟩⟩⟩⟩⟩⟩⟩⟩⟩⟩⟩⟩⟩
theorem lw_p16 : lw_okq (⟨"EveryTwentyMinutesModel", "here", "()I"⟩, 39) := ⟨⟨by decide +kernel, by decide +kernel⟩, List.mem_of_getElem? (i := 704) (by decide +kernel), List.mem_of_getElem? (i := 844) (by decide +kernel), List.mem_of_getElem? (i := 845) (by decide +kernel)⟩
theorem lw_p17 : lw_okq (⟨"EveryTwentyMinutesModel", "readDigits", "(I)I"⟩, 39) := ⟨⟨by decide +kernel, by decide +kernel⟩, List.mem_of_getElem? (i := 704) (by decide +kernel), List.mem_of_getElem? (i := 851) (by decide +kernel), List.mem_of_getElem? (i := 852) (by decide +kernel)⟩
theorem lw_p18 : lw_okq (⟨"EveryTwentyMinutesModel", "think", "()V"⟩, 39) := ⟨⟨by decide +kernel, by decide +kernel⟩, List.mem_of_getElem? (i := 704) (by decide +kernel), List.mem_of_getElem? (i := 860) (by decide +kernel), List.mem_of_getElem? (i := 861) (by decide +kernel)⟩
theorem lw_p19 : lw_okq (⟨"EveryTwentyMinutesModel", "carryAll", "([IZ)V"⟩, 39) := ⟨⟨by decide +kernel, by decide +kernel⟩, List.mem_of_getElem? (i := 704) (by decide +kernel), List.mem_of_getElem? (i := 864) (by decide +kernel), List.mem_of_getElem? (i := 865) (by decide +kernel)⟩
theorem lw_p20 : lw_okq (⟨"EveryTwentyMinutesModel", "carry", "(I)I"⟩, 39) := ⟨⟨by decide +kernel, by decide +kernel⟩, List.mem_of_getElem? (i := 704) (by decide +kernel), List.mem_of_getElem? (i := 868) (by decide +kernel), List.mem_of_getElem? (i := 869) (by decide +kernel)⟩
theorem lw_p21 : lw_okq (⟨"EveryTwentyMinutesModel", "comesTold", "(I)Z"⟩, 39) := ⟨⟨by decide +kernel, by decide +kernel⟩, List.mem_of_getElem? (i := 704) (by decide +kernel), List.mem_of_getElem? (i := 872) (by decide +kernel), List.mem_of_getElem? (i := 873) (by decide +kernel)⟩
theorem lw_p22 : lw_okq (⟨"EveryTwentyMinutesModel", "coupleComes", "(III)Z"⟩, 39) := ⟨⟨by decide +kernel, by decide +kernel⟩, List.mem_of_getElem? (i := 704) (by decide +kernel), List.mem_of_getElem? (i := 876) (by decide +kernel), List.mem_of_getElem? (i := 877) (by decide +kernel)⟩
theorem lw_p23 : lw_okq (⟨"EveryTwentyMinutesModel", "roomsBecome", "(I)V"⟩, 39) := ⟨⟨by decide +kernel, by decide +kernel⟩, List.mem_of_getElem? (i := 704) (by decide +kernel), List.mem_of_getElem? (i := 881) (by decide +kernel), List.mem_of_getElem? (i := 882) (by decide +kernel)⟩
theorem lw_p24 : lw_okq (⟨"EveryTwentyMinutesModel", "isCouple", "(I)Z"⟩, 39) := ⟨⟨by decide +kernel, by decide +kernel⟩, List.mem_of_getElem? (i := 704) (by decide +kernel), List.mem_of_getElem? (i := 885) (by decide +kernel), List.mem_of_getElem? (i := 886) (by decide +kernel)⟩
theorem lw_p25 : lw_okq (⟨"EveryTwentyMinutesModel", "putFirst", "(I)V"⟩, 39) := ⟨⟨by decide +kernel, by decide +kernel⟩, List.mem_of_getElem? (i := 704) (by decide +kernel), List.mem_of_getElem? (i := 889) (by decide +kernel), List.mem_of_getElem? (i := 890) (by decide +kernel)⟩
theorem lw_p26 : lw_okq (⟨"EveryTwentyMinutesModel", "placeOf", "(I)I"⟩, 39) := ⟨⟨by decide +kernel, by decide +kernel⟩, List.mem_of_getElem? (i := 704) (by decide +kernel), List.mem_of_getElem? (i := 893) (by decide +kernel), List.mem_of_getElem? (i := 894) (by decide +kernel)⟩
theorem lw_p27 : lw_okq (⟨"EveryTwentyMinutesModel", "wedsCome", "(I)Z"⟩, 39) := ⟨⟨by decide +kernel, by decide +kernel⟩, List.mem_of_getElem? (i := 704) (by decide +kernel), List.mem_of_getElem? (i := 897) (by decide +kernel), List.mem_of_getElem? (i := 898) (by decide +kernel)⟩
theorem lw_p28 : lw_okq (⟨"EveryTwentyMinutesModel", "wedOne", "(I)V"⟩, 39) := ⟨⟨by decide +kernel, by decide +kernel⟩, List.mem_of_getElem? (i := 704) (by decide +kernel), List.mem_of_getElem? (i := 902) (by decide +kernel), List.mem_of_getElem? (i := 903) (by decide +kernel)⟩
theorem lw_p29 : lw_okq (⟨"EveryTwentyMinutesModel", "firstOff", "()I"⟩, 39) := ⟨⟨by decide +kernel, by decide +kernel⟩, List.mem_of_getElem? (i := 704) (by decide +kernel), List.mem_of_getElem? (i := 906) (by decide +kernel), List.mem_of_getElem? (i := 907) (by decide +kernel)⟩
theorem lw_p30 : lw_okq (⟨"EveryTwentyMinutesModel", "readyOf", "(I)I"⟩, 39) := ⟨⟨by decide +kernel, by decide +kernel⟩, List.mem_of_getElem? (i := 704) (by decide +kernel), List.mem_of_getElem? (i := 910) (by decide +kernel), List.mem_of_getElem? (i := 911) (by decide +kernel)⟩
theorem lw_p31 : lw_okq (⟨"EveryTwentyMinutesModel", "restFor", "(I)V"⟩, 39) := ⟨⟨by decide +kernel, by decide +kernel⟩, List.mem_of_getElem? (i := 704) (by decide +kernel), List.mem_of_getElem? (i := 924) (by decide +kernel), List.mem_of_getElem? (i := 925) (by decide +kernel)⟩
def lw_privs_2 : List (MethodName × Nat) := [(⟨"EveryTwentyMinutesModel", "here", "()I"⟩, 39), (⟨"EveryTwentyMinutesModel", "readDigits", "(I)I"⟩, 39), (⟨"EveryTwentyMinutesModel", "think", "()V"⟩, 39), (⟨"EveryTwentyMinutesModel", "carryAll", "([IZ)V"⟩, 39), (⟨"EveryTwentyMinutesModel", "carry", "(I)I"⟩, 39), (⟨"EveryTwentyMinutesModel", "comesTold", "(I)Z"⟩, 39), (⟨"EveryTwentyMinutesModel", "coupleComes", "(III)Z"⟩, 39), (⟨"EveryTwentyMinutesModel", "roomsBecome", "(I)V"⟩, 39), (⟨"EveryTwentyMinutesModel", "isCouple", "(I)Z"⟩, 39), (⟨"EveryTwentyMinutesModel", "putFirst", "(I)V"⟩, 39), (⟨"EveryTwentyMinutesModel", "placeOf", "(I)I"⟩, 39), (⟨"EveryTwentyMinutesModel", "wedsCome", "(I)Z"⟩, 39), (⟨"EveryTwentyMinutesModel", "wedOne", "(I)V"⟩, 39), (⟨"EveryTwentyMinutesModel", "firstOff", "()I"⟩, 39), (⟨"EveryTwentyMinutesModel", "readyOf", "(I)I"⟩, 39), (⟨"EveryTwentyMinutesModel", "restFor", "(I)V"⟩, 39)]
theorem lw_r2 : ∀ q ∈ lw_privs_2, lw_okq q := List.forall_mem_cons.mpr ⟨lw_p16, List.forall_mem_cons.mpr ⟨lw_p17, List.forall_mem_cons.mpr ⟨lw_p18, List.forall_mem_cons.mpr ⟨lw_p19, List.forall_mem_cons.mpr ⟨lw_p20, List.forall_mem_cons.mpr ⟨lw_p21, List.forall_mem_cons.mpr ⟨lw_p22, List.forall_mem_cons.mpr ⟨lw_p23, List.forall_mem_cons.mpr ⟨lw_p24, List.forall_mem_cons.mpr ⟨lw_p25, List.forall_mem_cons.mpr ⟨lw_p26, List.forall_mem_cons.mpr ⟨lw_p27, List.forall_mem_cons.mpr ⟨lw_p28, List.forall_mem_cons.mpr ⟨lw_p29, List.forall_mem_cons.mpr ⟨lw_p30, List.forall_mem_cons.mpr ⟨lw_p31, fun _ h => absurd h List.not_mem_nil⟩⟩⟩⟩⟩⟩⟩⟩⟩⟩⟩⟩⟩⟩⟩⟩
theorem lw_p32 : lw_okq (⟨"EveryTwentyMinutesModel", "again", "()V"⟩, 39) := ⟨⟨by decide +kernel, by decide +kernel⟩, List.mem_of_getElem? (i := 704) (by decide +kernel), List.mem_of_getElem? (i := 928) (by decide +kernel), List.mem_of_getElem? (i := 929) (by decide +kernel)⟩
theorem lw_p33 : lw_okq (⟨"EveryTwentyMinutesModel", "guestsOf", "(I)I"⟩, 39) := ⟨⟨by decide +kernel, by decide +kernel⟩, List.mem_of_getElem? (i := 704) (by decide +kernel), List.mem_of_getElem? (i := 948) (by decide +kernel), List.mem_of_getElem? (i := 949) (by decide +kernel)⟩
theorem lw_p34 : lw_okq (⟨"EveryTwentyMinutesModel", "posesOf", "(I)I"⟩, 39) := ⟨⟨by decide +kernel, by decide +kernel⟩, List.mem_of_getElem? (i := 704) (by decide +kernel), List.mem_of_getElem? (i := 952) (by decide +kernel), List.mem_of_getElem? (i := 953) (by decide +kernel)⟩
theorem lw_p35 : lw_okq (⟨"EveryTwentyMinutesModel", "keepTurn", "()V"⟩, 39) := ⟨⟨by decide +kernel, by decide +kernel⟩, List.mem_of_getElem? (i := 704) (by decide +kernel), List.mem_of_getElem? (i := 980) (by decide +kernel), List.mem_of_getElem? (i := 981) (by decide +kernel)⟩
theorem lw_p36 : lw_okq (⟨"EveryTwentyMinutesModel", "wedAll", "()V"⟩, 39) := ⟨⟨by decide +kernel, by decide +kernel⟩, List.mem_of_getElem? (i := 704) (by decide +kernel), List.mem_of_getElem? (i := 1003) (by decide +kernel), List.mem_of_getElem? (i := 1004) (by decide +kernel)⟩
theorem lw_p37 : lw_okq (⟨"EveryTwentyMinutesModel", "lateOf", "(I)I"⟩, 39) := ⟨⟨by decide +kernel, by decide +kernel⟩, List.mem_of_getElem? (i := 704) (by decide +kernel), List.mem_of_getElem? (i := 1007) (by decide +kernel), List.mem_of_getElem? (i := 1008) (by decide +kernel)⟩
theorem lw_p38 : lw_okq (⟨"EveryTwentyMinutesModel", "allLate", "()I"⟩, 39) := ⟨⟨by decide +kernel, by decide +kernel⟩, List.mem_of_getElem? (i := 704) (by decide +kernel), List.mem_of_getElem? (i := 1020) (by decide +kernel), List.mem_of_getElem? (i := 1021) (by decide +kernel)⟩
theorem lw_p39 : lw_okq (⟨"EveryTwentyMinutesModel", "lastEnd", "()I"⟩, 39) := ⟨⟨by decide +kernel, by decide +kernel⟩, List.mem_of_getElem? (i := 704) (by decide +kernel), List.mem_of_getElem? (i := 1024) (by decide +kernel), List.mem_of_getElem? (i := 1025) (by decide +kernel)⟩
theorem lw_p40 : lw_okq (⟨"EveryTwentyMinutesModel", "meetMany", "()I"⟩, 39) := ⟨⟨by decide +kernel, by decide +kernel⟩, List.mem_of_getElem? (i := 704) (by decide +kernel), List.mem_of_getElem? (i := 1032) (by decide +kernel), List.mem_of_getElem? (i := 1033) (by decide +kernel)⟩
theorem lw_p41 : lw_okq (⟨"EveryTwentyMinutesModel", "meet", "(II)Z"⟩, 39) := ⟨⟨by decide +kernel, by decide +kernel⟩, List.mem_of_getElem? (i := 704) (by decide +kernel), List.mem_of_getElem? (i := 1036) (by decide +kernel), List.mem_of_getElem? (i := 1037) (by decide +kernel)⟩
theorem lw_p42 : lw_okq (⟨"EveryTwentyMinutesModel", "firstMet", "()I"⟩, 39) := ⟨⟨by decide +kernel, by decide +kernel⟩, List.mem_of_getElem? (i := 704) (by decide +kernel), List.mem_of_getElem? (i := 1044) (by decide +kernel), List.mem_of_getElem? (i := 1045) (by decide +kernel)⟩
theorem lw_p43 : lw_okq (⟨"EveryTwentyMinutesModel", "strayedOne", "()I"⟩, 39) := ⟨⟨by decide +kernel, by decide +kernel⟩, List.mem_of_getElem? (i := 704) (by decide +kernel), List.mem_of_getElem? (i := 1048) (by decide +kernel), List.mem_of_getElem? (i := 1049) (by decide +kernel)⟩
theorem lw_p44 : lw_okq (⟨"EveryTwentyMinutesModel", "laySorted", "()V"⟩, 39) := ⟨⟨by decide +kernel, by decide +kernel⟩, List.mem_of_getElem? (i := 704) (by decide +kernel), List.mem_of_getElem? (i := 1056) (by decide +kernel), List.mem_of_getElem? (i := 1057) (by decide +kernel)⟩
theorem lw_p45 : lw_okq (⟨"EveryTwentyMinutesModel", "layOrder", "(I)V"⟩, 39) := ⟨⟨by decide +kernel, by decide +kernel⟩, List.mem_of_getElem? (i := 704) (by decide +kernel), List.mem_of_getElem? (i := 1063) (by decide +kernel), List.mem_of_getElem? (i := 1064) (by decide +kernel)⟩
theorem lw_p46 : lw_okq (⟨"EveryTwentyMinutesModel", "lateNow", "()I"⟩, 39) := ⟨⟨by decide +kernel, by decide +kernel⟩, List.mem_of_getElem? (i := 704) (by decide +kernel), List.mem_of_getElem? (i := 1070) (by decide +kernel), List.mem_of_getElem? (i := 1071) (by decide +kernel)⟩
theorem lw_p47 : lw_okq (⟨"EveryTwentyMinutesModel", "pose", "()I"⟩, 39) := ⟨⟨by decide +kernel, by decide +kernel⟩, List.mem_of_getElem? (i := 704) (by decide +kernel), List.mem_of_getElem? (i := 1098) (by decide +kernel), List.mem_of_getElem? (i := 1099) (by decide +kernel)⟩
def lw_privs_3 : List (MethodName × Nat) := [(⟨"EveryTwentyMinutesModel", "again", "()V"⟩, 39), (⟨"EveryTwentyMinutesModel", "guestsOf", "(I)I"⟩, 39), (⟨"EveryTwentyMinutesModel", "posesOf", "(I)I"⟩, 39), (⟨"EveryTwentyMinutesModel", "keepTurn", "()V"⟩, 39), (⟨"EveryTwentyMinutesModel", "wedAll", "()V"⟩, 39), (⟨"EveryTwentyMinutesModel", "lateOf", "(I)I"⟩, 39), (⟨"EveryTwentyMinutesModel", "allLate", "()I"⟩, 39), (⟨"EveryTwentyMinutesModel", "lastEnd", "()I"⟩, 39), (⟨"EveryTwentyMinutesModel", "meetMany", "()I"⟩, 39), (⟨"EveryTwentyMinutesModel", "meet", "(II)Z"⟩, 39), (⟨"EveryTwentyMinutesModel", "firstMet", "()I"⟩, 39), (⟨"EveryTwentyMinutesModel", "strayedOne", "()I"⟩, 39), (⟨"EveryTwentyMinutesModel", "laySorted", "()V"⟩, 39), (⟨"EveryTwentyMinutesModel", "layOrder", "(I)V"⟩, 39), (⟨"EveryTwentyMinutesModel", "lateNow", "()I"⟩, 39), (⟨"EveryTwentyMinutesModel", "pose", "()I"⟩, 39)]
theorem lw_r3 : ∀ q ∈ lw_privs_3, lw_okq q := List.forall_mem_cons.mpr ⟨lw_p32, List.forall_mem_cons.mpr ⟨lw_p33, List.forall_mem_cons.mpr ⟨lw_p34, List.forall_mem_cons.mpr ⟨lw_p35, List.forall_mem_cons.mpr ⟨lw_p36, List.forall_mem_cons.mpr ⟨lw_p37, List.forall_mem_cons.mpr ⟨lw_p38, List.forall_mem_cons.mpr ⟨lw_p39, List.forall_mem_cons.mpr ⟨lw_p40, List.forall_mem_cons.mpr ⟨lw_p41, List.forall_mem_cons.mpr ⟨lw_p42, List.forall_mem_cons.mpr ⟨lw_p43, List.forall_mem_cons.mpr ⟨lw_p44, List.forall_mem_cons.mpr ⟨lw_p45, List.forall_mem_cons.mpr ⟨lw_p46, List.forall_mem_cons.mpr ⟨lw_p47, fun _ h => absurd h List.not_mem_nil⟩⟩⟩⟩⟩⟩⟩⟩⟩⟩⟩⟩⟩⟩⟩⟩
theorem lw_p48 : lw_okq (⟨"EveryTwentyMinutesModel", "nextPosing", "(I)I"⟩, 39) := ⟨⟨by decide +kernel, by decide +kernel⟩, List.mem_of_getElem? (i := 704) (by decide +kernel), List.mem_of_getElem? (i := 1102) (by decide +kernel), List.mem_of_getElem? (i := 1103) (by decide +kernel)⟩
theorem lw_p49 : lw_okq (⟨"EveryTwentyMinutesModel", "insideAt", "(I)I"⟩, 39) := ⟨⟨by decide +kernel, by decide +kernel⟩, List.mem_of_getElem? (i := 704) (by decide +kernel), List.mem_of_getElem? (i := 1114) (by decide +kernel), List.mem_of_getElem? (i := 1115) (by decide +kernel)⟩
theorem lw_p50 : lw_okq (⟨"EveryTwentyMinutesModel", "whenBy", "(II)I"⟩, 39) := ⟨⟨by decide +kernel, by decide +kernel⟩, List.mem_of_getElem? (i := 704) (by decide +kernel), List.mem_of_getElem? (i := 1147) (by decide +kernel), List.mem_of_getElem? (i := 1148) (by decide +kernel)⟩
theorem lw_p51 : lw_okq (⟨"EveryTwentyMinutesModel", "isRow", "()Z"⟩, 39) := ⟨⟨by decide +kernel, by decide +kernel⟩, List.mem_of_getElem? (i := 704) (by decide +kernel), List.mem_of_getElem? (i := 1151) (by decide +kernel), List.mem_of_getElem? (i := 1152) (by decide +kernel)⟩
theorem lw_p52 : lw_okq (⟨"EveryTwentyMinutesModel", "unwed", "()I"⟩, 39) := ⟨⟨by decide +kernel, by decide +kernel⟩, List.mem_of_getElem? (i := 704) (by decide +kernel), List.mem_of_getElem? (i := 1193) (by decide +kernel), List.mem_of_getElem? (i := 1194) (by decide +kernel)⟩
theorem lw_p53 : lw_okq (⟨"EveryTwentyMinutesModel", "drawBelow", "(I)I"⟩, 39) := ⟨⟨by decide +kernel, by decide +kernel⟩, List.mem_of_getElem? (i := 704) (by decide +kernel), List.mem_of_getElem? (i := 1213) (by decide +kernel), List.mem_of_getElem? (i := 1214) (by decide +kernel)⟩
def lw_privs_4 : List (MethodName × Nat) := [(⟨"EveryTwentyMinutesModel", "nextPosing", "(I)I"⟩, 39), (⟨"EveryTwentyMinutesModel", "insideAt", "(I)I"⟩, 39), (⟨"EveryTwentyMinutesModel", "whenBy", "(II)I"⟩, 39), (⟨"EveryTwentyMinutesModel", "isRow", "()Z"⟩, 39), (⟨"EveryTwentyMinutesModel", "unwed", "()I"⟩, 39), (⟨"EveryTwentyMinutesModel", "drawBelow", "(I)I"⟩, 39)]
theorem lw_r4 : ∀ q ∈ lw_privs_4, lw_okq q := List.forall_mem_cons.mpr ⟨lw_p48, List.forall_mem_cons.mpr ⟨lw_p49, List.forall_mem_cons.mpr ⟨lw_p50, List.forall_mem_cons.mpr ⟨lw_p51, List.forall_mem_cons.mpr ⟨lw_p52, List.forall_mem_cons.mpr ⟨lw_p53, fun _ h => absurd h List.not_mem_nil⟩⟩⟩⟩⟩⟩
def lw_privs : List (MethodName × Nat) := lw_privs_1 ++ (lw_privs_2 ++ (lw_privs_3 ++ (lw_privs_4)))
def lw_tbl : List Cond := k2_sels lw_privs ++ tables_1
theorem lw_privs_ok : ∀ q ∈ lw_privs, lw_okq q := by
  show ∀ q ∈ lw_privs_1 ++ (lw_privs_2 ++ (lw_privs_3 ++ (lw_privs_4))), lw_okq q
  exact List.forall_mem_append.mpr ⟨lw_r1, List.forall_mem_append.mpr ⟨lw_r2, List.forall_mem_append.mpr ⟨lw_r3, lw_r4⟩⟩⟩
-- ===== end of PART A; then your names; then what follows =====
/-! names: classes, fields, methods -/
def RX0 : String := "EveryTwentyMinutes$BestOrder"
def TX0 : u_T := fun k => match k with
  | 0 => ("EveryTwentyMinutes$BestOrder", "hall", "LEveryTwentyMinutes$Hall;", true)
  | 1 => ("EveryTwentyMinutes$BestOrder", "path", "[I", true)
  | 2 => ("EveryTwentyMinutes$BestOrder", "order", "[I", true)
  | 3 => ("EveryTwentyMinutes$BestOrder", "many", "I", false)
  | _ => ("EveryTwentyMinutes$BestOrder", "late", "I", false)
def tyX0 : Nat → FieldType := fun k => match k with
  | 0 => .object "EveryTwentyMinutes$Hall"
  | 1 => .array .int
  | 2 => .array .int
  | 3 => .int
  | _ => .int
abbrev wsX00 : List Cond := u_ws RX0 TX0 5
theorem nmX0 : ∀ a, a < 5 → ∀ b, b < 5 → a ≠ b → (TX0 a).2.1 ≠ (TX0 b).2.1 := by decide +kernel
theorem tyX0_ok : ∀ k, k < 5 → parseFieldDescriptor (TX0 k).2.2.1 = some (tyX0 k) := by decide +kernel
abbrev cX0_init : ByteArray := prog_2_method_1_code
def yX0_init : MethodName := ⟨RX0, "<init>", "()V"⟩
abbrev cX0_find : ByteArray := prog_2_method_2_code
def yX0_find : MethodName := ⟨RX0, "find", "(LEveryTwentyMinutes$Hall;)V"⟩
abbrev cX0_seek : ByteArray := prog_2_method_3_code
def yX0_seek : MethodName := ⟨RX0, "seek", "(LEveryTwentyMinutes$BestOrder;III)V"⟩
def RX1 : String := "EveryTwentyMinutes$Fountain"
def TX1 : u_T := fun k => match k with
  | 0 => ("EveryTwentyMinutes$Fountain", "begins", "[I", true)
  | 1 => ("EveryTwentyMinutes$Fountain", "longest", "I", false)
  | _ => ("EveryTwentyMinutes$Fountain", "done", "I", false)
def tyX1 : Nat → FieldType := fun k => match k with
  | 0 => .array .int
  | 1 => .int
  | _ => .int
abbrev wsX10 : List Cond := u_ws RX1 TX1 3
theorem nmX1 : ∀ a, a < 3 → ∀ b, b < 3 → a ≠ b → (TX1 a).2.1 ≠ (TX1 b).2.1 := by decide +kernel
theorem tyX1_ok : ∀ k, k < 3 → parseFieldDescriptor (TX1 k).2.2.1 = some (tyX1 k) := by decide +kernel
abbrev cX1_init : ByteArray := prog_3_method_1_code
def yX1_init : MethodName := ⟨RX1, "<init>", "()V"⟩
abbrev cX1_take : ByteArray := prog_3_method_2_code
def yX1_take : MethodName := ⟨RX1, "take", "(LEveryTwentyMinutes$Hall;)V"⟩
abbrev cX1_next : ByteArray := prog_3_method_3_code
def yX1_next : MethodName := ⟨RX1, "next", "(LEveryTwentyMinutes$Hall;I)I"⟩
def RX2 : String := "EveryTwentyMinutes$Hall"
def TX2 : u_T := fun k => match k with
  | 0 => ("EveryTwentyMinutes$Hall", "couples", "I", false)
  | 1 => ("EveryTwentyMinutes$Hall", "kind", "[I", true)
  | 2 => ("EveryTwentyMinutes$Hall", "figure", "[I", true)
  | 3 => ("EveryTwentyMinutes$Hall", "at", "[I", true)
  | 4 => ("EveryTwentyMinutes$Hall", "wed", "I", false)
  | 5 => ("EveryTwentyMinutes$Hall", "begins", "[I", true)
  | 6 => ("EveryTwentyMinutes$Hall", "ends", "[I", true)
  | 7 => ("EveryTwentyMinutes$Hall", "roomOf", "[I", true)
  | 8 => ("EveryTwentyMinutes$Hall", "waiting", "I", false)
  | 9 => ("EveryTwentyMinutes$Hall", "order", "[I", true)
  | 10 => ("EveryTwentyMinutes$Hall", "rooms", "I", false)
  | 11 => ("EveryTwentyMinutes$Hall", "freeFrom", "[I", true)
  | 12 => ("EveryTwentyMinutes$Hall", "tired", "I", false)
  | _ => ("EveryTwentyMinutes$Hall", "slack", "I", false)
def tyX2 : Nat → FieldType := fun k => match k with
  | 0 => .int
  | 1 => .array .int
  | 2 => .array .int
  | 3 => .array .int
  | 4 => .int
  | 5 => .array .int
  | 6 => .array .int
  | 7 => .array .int
  | 8 => .int
  | 9 => .array .int
  | 10 => .int
  | 11 => .array .int
  | 12 => .int
  | _ => .int
abbrev wsX20 : List Cond := u_ws RX2 TX2 14
theorem nmX2 : ∀ a, a < 14 → ∀ b, b < 14 → a ≠ b → (TX2 a).2.1 ≠ (TX2 b).2.1 := by decide +kernel
theorem tyX2_ok : ∀ k, k < 14 → parseFieldDescriptor (TX2 k).2.2.1 = some (tyX2 k) := by decide +kernel
abbrev cX2_init : ByteArray := prog_4_method_1_code
def yX2_init : MethodName := ⟨RX2, "<init>", "()V"⟩
abbrev cX2_become : ByteArray := prog_4_method_2_code
def yX2_become : MethodName := ⟨RX2, "become", "(LEveryTwentyMinutes$Hall;)V"⟩
abbrev cX2_has : ByteArray := prog_4_method_3_code
def yX2_has : MethodName := ⟨RX2, "has", "(I)Z"⟩
abbrev cX2_isFull : ByteArray := prog_4_method_4_code
def yX2_isFull : MethodName := ⟨RX2, "isFull", "()Z"⟩
abbrev cX2_isWed : ByteArray := prog_4_method_5_code
def yX2_isWed : MethodName := ⟨RX2, "isWed", "(I)Z"⟩
abbrev cX2_lastsOf : ByteArray := prog_4_method_6_code
def yX2_lastsOf : MethodName := ⟨RX2, "lastsOf", "(I)I"⟩
abbrev cX2_readyOf : ByteArray := prog_4_method_7_code
def yX2_readyOf : MethodName := ⟨RX2, "readyOf", "(I)I"⟩
abbrev cX2_guestsOf : ByteArray := prog_4_method_8_code
def yX2_guestsOf : MethodName := ⟨RX2, "guestsOf", "(I)I"⟩
abbrev cX2_add : ByteArray := prog_4_method_9_code
def yX2_add : MethodName := ⟨RX2, "add", "(III)V"⟩
abbrev cX2_openRooms : ByteArray := prog_4_method_10_code
def yX2_openRooms : MethodName := ⟨RX2, "openRooms", "(I)V"⟩
abbrev cX2_placeOf : ByteArray := prog_4_method_11_code
def yX2_placeOf : MethodName := ⟨RX2, "placeOf", "(I)I"⟩
abbrev cX2_putFirst : ByteArray := prog_4_method_12_code
def yX2_putFirst : MethodName := ⟨RX2, "putFirst", "(I)V"⟩
abbrev cX2_changePlaces : ByteArray := prog_4_method_13_code
def yX2_changePlaces : MethodName := ⟨RX2, "changePlaces", "(II)V"⟩
abbrev cX2_restClerk : ByteArray := prog_4_method_14_code
def yX2_restClerk : MethodName := ⟨RX2, "restClerk", "(I)V"⟩
abbrev cX2_wedAll : ByteArray := prog_4_method_15_code
def yX2_wedAll : MethodName := ⟨RX2, "wedAll", "()V"⟩
abbrev cX2_wedSome : ByteArray := prog_4_method_16_code
def yX2_wedSome : MethodName := ⟨RX2, "wedSome", "(I)V"⟩
abbrev cX2_wedFirst : ByteArray := prog_4_method_17_code
def yX2_wedFirst : MethodName := ⟨RX2, "wedFirst", "(I)V"⟩
abbrev cX2_hold : ByteArray := prog_4_method_18_code
def yX2_hold : MethodName := ⟨RX2, "hold", "(II)V"⟩
abbrev cX2_lateOf : ByteArray := prog_4_method_19_code
def yX2_lateOf : MethodName := ⟨RX2, "lateOf", "(I)I"⟩
abbrev cX2_waitOf : ByteArray := prog_4_method_20_code
def yX2_waitOf : MethodName := ⟨RX2, "waitOf", "(I)I"⟩
abbrev cX2_allLate : ByteArray := prog_4_method_21_code
def yX2_allLate : MethodName := ⟨RX2, "allLate", "()I"⟩
abbrev cX2_lateOfWed : ByteArray := prog_4_method_22_code
def yX2_lateOfWed : MethodName := ⟨RX2, "lateOfWed", "()I"⟩
abbrev cX2_last : ByteArray := prog_4_method_23_code
def yX2_last : MethodName := ⟨RX2, "last", "()I"⟩
abbrev cX2_meet : ByteArray := prog_4_method_24_code
def yX2_meet : MethodName := ⟨RX2, "meet", "(II)Z"⟩
abbrev cX2_meetings : ByteArray := prog_4_method_25_code
def yX2_meetings : MethodName := ⟨RX2, "meetings", "()I"⟩
abbrev cX2_firstMeeting : ByteArray := prog_4_method_26_code
def yX2_firstMeeting : MethodName := ⟨RX2, "firstMeeting", "()I"⟩
abbrev cX2_strayed : ByteArray := prog_4_method_27_code
def yX2_strayed : MethodName := ⟨RX2, "strayed", "()I"⟩
abbrev cX2_guestsAt : ByteArray := prog_4_method_28_code
def yX2_guestsAt : MethodName := ⟨RX2, "guestsAt", "(I)I"⟩
abbrev cX2_longestOne : ByteArray := prog_4_method_29_code
def yX2_longestOne : MethodName := ⟨RX2, "longestOne", "()I"⟩
abbrev cX2_dearest : ByteArray := prog_4_method_30_code
def yX2_dearest : MethodName := ⟨RX2, "dearest", "()I"⟩
abbrev cX2_bunched : ByteArray := prog_4_method_31_code
def yX2_bunched : MethodName := ⟨RX2, "bunched", "()I"⟩
def RX3 : String := "EveryTwentyMinutes$Kinds"
def TX3 : u_T := fun k => match k with
  | _ => ("", "", "", false)
def tyX3 : Nat → FieldType := fun k => match k with
  | _ => .int
abbrev wsX30 : List Cond := u_ws RX3 TX3 0
theorem nmX3 : ∀ a, a < 0 → ∀ b, b < 0 → a ≠ b → (TX3 a).2.1 ≠ (TX3 b).2.1 := by decide +kernel
theorem tyX3_ok : ∀ k, k < 0 → parseFieldDescriptor (TX3 k).2.2.1 = some (tyX3 k) := by decide +kernel
abbrev cX3_isOne : ByteArray := prog_5_method_2_code
def yX3_isOne : MethodName := ⟨RX3, "isOne", "(I)Z"⟩
abbrev cX3_lasts : ByteArray := prog_5_method_3_code
def yX3_lasts : MethodName := ⟨RX3, "lasts", "(II)I"⟩
abbrev cX3_ready : ByteArray := prog_5_method_4_code
def yX3_ready : MethodName := ⟨RX3, "ready", "(III)I"⟩
abbrev cX3_guests : ByteArray := prog_5_method_5_code
def yX3_guests : MethodName := ⟨RX3, "guests", "(II)I"⟩
abbrev cX3_poses : ByteArray := prog_5_method_6_code
def yX3_poses : MethodName := ⟨RX3, "poses", "(II)I"⟩
def RX4 : String := "EveryTwentyMinutes$Letters"
def TX4 : u_T := fun k => match k with
  | 0 => ("EveryTwentyMinutes$Letters", "letter", "[I", true)
  | _ => ("EveryTwentyMinutes$Letters", "many", "I", false)
def tyX4 : Nat → FieldType := fun k => match k with
  | 0 => .array .int
  | _ => .int
abbrev wsX40 : List Cond := u_ws RX4 TX4 2
theorem nmX4 : ∀ a, a < 2 → ∀ b, b < 2 → a ≠ b → (TX4 a).2.1 ≠ (TX4 b).2.1 := by decide +kernel
theorem tyX4_ok : ∀ k, k < 2 → parseFieldDescriptor (TX4 k).2.2.1 = some (tyX4 k) := by decide +kernel
abbrev cX4_init : ByteArray := prog_6_method_1_code
def yX4_init : MethodName := ⟨RX4, "<init>", "()V"⟩
abbrev cX4_take : ByteArray := prog_6_method_2_code
def yX4_take : MethodName := ⟨RX4, "take", "(I)Z"⟩
abbrev cX4_digitsBehind : ByteArray := prog_6_method_3_code
def yX4_digitsBehind : MethodName := ⟨RX4, "digitsBehind", "(I)I"⟩
abbrev cX4_isDigit : ByteArray := prog_6_method_4_code
def yX4_isDigit : MethodName := ⟨RX4, "isDigit", "(I)Z"⟩
abbrev cX4_faultyPlace : ByteArray := prog_6_method_5_code
def yX4_faultyPlace : MethodName := ⟨RX4, "faultyPlace", "()I"⟩
abbrev cX4_tellTo : ByteArray := prog_6_method_6_code
def yX4_tellTo : MethodName := ⟨RX4, "tellTo", "(LEveryTwentyMinutes$Hall;)I"⟩
abbrev cX4_number : ByteArray := prog_6_method_7_code
def yX4_number : MethodName := ⟨RX4, "number", "(II)I"⟩
abbrev cX4_obeyed : ByteArray := prog_6_method_8_code
def yX4_obeyed : MethodName := ⟨RX4, "obeyed", "(LEveryTwentyMinutes$Hall;I)Z"⟩
abbrev cX4_coupleComes : ByteArray := prog_6_method_9_code
def yX4_coupleComes : MethodName := ⟨RX4, "coupleComes", "(LEveryTwentyMinutes$Hall;I)Z"⟩
abbrev cX4_roomsOpened : ByteArray := prog_6_method_10_code
def yX4_roomsOpened : MethodName := ⟨RX4, "roomsOpened", "(LEveryTwentyMinutes$Hall;I)Z"⟩
abbrev cX4_putFirst : ByteArray := prog_6_method_11_code
def yX4_putFirst : MethodName := ⟨RX4, "putFirst", "(LEveryTwentyMinutes$Hall;I)Z"⟩
abbrev cX4_someWed : ByteArray := prog_6_method_12_code
def yX4_someWed : MethodName := ⟨RX4, "someWed", "(LEveryTwentyMinutes$Hall;I)Z"⟩
abbrev cX4_clerkRests : ByteArray := prog_6_method_13_code
def yX4_clerkRests : MethodName := ⟨RX4, "clerkRests", "(LEveryTwentyMinutes$Hall;I)Z"⟩
def RX5 : String := "EveryTwentyMinutes$Past"
def TX5 : u_T := fun k => match k with
  | 0 => ("EveryTwentyMinutes$Past", "kept", "[LEveryTwentyMinutes$Hall;", true)
  | 1 => ("EveryTwentyMinutes$Past", "oldest", "I", false)
  | _ => ("EveryTwentyMinutes$Past", "many", "I", false)
def tyX5 : Nat → FieldType := fun k => match k with
  | 0 => .array (.object "EveryTwentyMinutes$Hall")
  | 1 => .int
  | _ => .int
abbrev wsX50 : List Cond := u_ws RX5 TX5 3
theorem nmX5 : ∀ a, a < 3 → ∀ b, b < 3 → a ≠ b → (TX5 a).2.1 ≠ (TX5 b).2.1 := by decide +kernel
theorem tyX5_ok : ∀ k, k < 3 → parseFieldDescriptor (TX5 k).2.2.1 = some (tyX5 k) := by decide +kernel
abbrev cX5_init : ByteArray := prog_7_method_1_code
def yX5_init : MethodName := ⟨RX5, "<init>", "()V"⟩
abbrev cX5_keep : ByteArray := prog_7_method_2_code
def yX5_keep : MethodName := ⟨RX5, "keep", "(LEveryTwentyMinutes$Hall;)V"⟩
abbrev cX5_giveBack : ByteArray := prog_7_method_3_code
def yX5_giveBack : MethodName := ⟨RX5, "giveBack", "(LEveryTwentyMinutes$Hall;)Z"⟩
abbrev cX5_forget : ByteArray := prog_7_method_4_code
def yX5_forget : MethodName := ⟨RX5, "forget", "()V"⟩
def RX6 : String := "EveryTwentyMinutes"
def TX6 : u_T := fun k => match k with
  | 0 => ("EveryTwentyMinutes", "now", "LEveryTwentyMinutes$Hall;", true)
  | 1 => ("EveryTwentyMinutes", "trial", "LEveryTwentyMinutes$Hall;", true)
  | 2 => ("EveryTwentyMinutes", "imaged", "LEveryTwentyMinutes$Hall;", true)
  | 3 => ("EveryTwentyMinutes", "hasImage", "Z", false)
  | 4 => ("EveryTwentyMinutes", "past", "LEveryTwentyMinutes$Past;", true)
  | 5 => ("EveryTwentyMinutes", "letters", "LEveryTwentyMinutes$Letters;", true)
  | 6 => ("EveryTwentyMinutes", "bestOrder", "LEveryTwentyMinutes$BestOrder;", true)
  | 7 => ("EveryTwentyMinutes", "turns", "LEveryTwentyMinutes$Fountain;", true)
  | 8 => ("EveryTwentyMinutes", "told", "[I", true)
  | 9 => ("EveryTwentyMinutes", "toldMany", "I", false)
  | _ => ("EveryTwentyMinutes", "refusals", "[I", true)
def tyX6 : Nat → FieldType := fun k => match k with
  | 0 => .object "EveryTwentyMinutes$Hall"
  | 1 => .object "EveryTwentyMinutes$Hall"
  | 2 => .object "EveryTwentyMinutes$Hall"
  | 3 => .boolean
  | 4 => .object "EveryTwentyMinutes$Past"
  | 5 => .object "EveryTwentyMinutes$Letters"
  | 6 => .object "EveryTwentyMinutes$BestOrder"
  | 7 => .object "EveryTwentyMinutes$Fountain"
  | 8 => .array .int
  | 9 => .int
  | _ => .array .int
abbrev wsX60 : List Cond := u_ws RX6 TX6 11
theorem nmX6 : ∀ a, a < 11 → ∀ b, b < 11 → a ≠ b → (TX6 a).2.1 ≠ (TX6 b).2.1 := by decide +kernel
theorem tyX6_ok : ∀ k, k < 11 → parseFieldDescriptor (TX6 k).2.2.1 = some (tyX6 k) := by decide +kernel
abbrev cX6_init : ByteArray := prog_1_method_1_code
def yX6_init : MethodName := ⟨RX6, "<init>", "()V"⟩
abbrev cX6_feed : ByteArray := prog_1_method_2_code
def yX6_feed : MethodName := ⟨RX6, "feed", "(I)I"⟩
abbrev cX6_hall : ByteArray := prog_1_method_3_code
def yX6_hall : MethodName := ⟨RX6, "hall", "()I"⟩
abbrev cX6_coupleOf : ByteArray := prog_1_method_4_code
def yX6_coupleOf : MethodName := ⟨RX6, "coupleOf", "(II)I"⟩
abbrev cX6_order : ByteArray := prog_1_method_5_code
def yX6_order : MethodName := ⟨RX6, "order", "(I)I"⟩
abbrev cX6_free : ByteArray := prog_1_method_6_code
def yX6_free : MethodName := ⟨RX6, "free", "(I)I"⟩
abbrev cX6_couple : ByteArray := prog_1_method_7_code
def yX6_couple : MethodName := ⟨RX6, "couple", "(III)I"⟩
abbrev cX6_rooms : ByteArray := prog_1_method_8_code
def yX6_rooms : MethodName := ⟨RX6, "rooms", "(I)I"⟩
abbrev cX6_weds : ByteArray := prog_1_method_9_code
def yX6_weds : MethodName := ⟨RX6, "weds", "(I)I"⟩
abbrev cX6_pulls : ByteArray := prog_1_method_10_code
def yX6_pulls : MethodName := ⟨RX6, "pulls", "(I)I"⟩
abbrev cX6_slack : ByteArray := prog_1_method_11_code
def yX6_slack : MethodName := ⟨RX6, "slack", "(I)I"⟩
abbrev cX6_rests : ByteArray := prog_1_method_12_code
def yX6_rests : MethodName := ⟨RX6, "rests", "(I)I"⟩
abbrev cX6_back : ByteArray := prog_1_method_13_code
def yX6_back : MethodName := ⟨RX6, "back", "()I"⟩
abbrev cX6_when : ByteArray := prog_1_method_14_code
def yX6_when : MethodName := ⟨RX6, "when", "(II)I"⟩
abbrev cX6_waits : ByteArray := prog_1_method_15_code
def yX6_waits : MethodName := ⟨RX6, "waits", "(I)I"⟩
abbrev cX6_all : ByteArray := prog_1_method_16_code
def yX6_all : MethodName := ⟨RX6, "all", "(I)I"⟩
abbrev cX6_met : ByteArray := prog_1_method_17_code
def yX6_met : MethodName := ⟨RX6, "met", "(I)I"⟩
abbrev cX6_best : ByteArray := prog_1_method_18_code
def yX6_best : MethodName := ⟨RX6, "best", "(I)I"⟩
abbrev cX6_pull : ByteArray := prog_1_method_19_code
def yX6_pull : MethodName := ⟨RX6, "pull", "()I"⟩
abbrev cX6_bestSlack : ByteArray := prog_1_method_20_code
def yX6_bestSlack : MethodName := ⟨RX6, "bestSlack", "(I)I"⟩
abbrev cX6_rest : ByteArray := prog_1_method_21_code
def yX6_rest : MethodName := ⟨RX6, "rest", "()I"⟩
abbrev cX6_saved : ByteArray := prog_1_method_22_code
def yX6_saved : MethodName := ⟨RX6, "saved", "()I"⟩
abbrev cX6_can : ByteArray := prog_1_method_23_code
def yX6_can : MethodName := ⟨RX6, "can", "(III)I"⟩
abbrev cX6_fountain : ByteArray := prog_1_method_24_code
def yX6_fountain : MethodName := ⟨RX6, "fountain", "(I)I"⟩
abbrev cX6_fountains : ByteArray := prog_1_method_25_code
def yX6_fountains : MethodName := ⟨RX6, "fountains", "(I)I"⟩
abbrev cX6_inside : ByteArray := prog_1_method_26_code
def yX6_inside : MethodName := ⟨RX6, "inside", "(I)I"⟩
abbrev cX6_crowded : ByteArray := prog_1_method_27_code
def yX6_crowded : MethodName := ⟨RX6, "crowded", "()I"⟩
abbrev cX6_price : ByteArray := prog_1_method_28_code
def yX6_price : MethodName := ⟨RX6, "price", "(I)I"⟩
abbrev cX6_odds : ByteArray := prog_1_method_29_code
def yX6_odds : MethodName := ⟨RX6, "odds", "(IIII)J"⟩
abbrev cX6_two : ByteArray := prog_1_method_30_code
def yX6_two : MethodName := ⟨RX6, "two", "(II)I"⟩
abbrev cX6_whatWas : ByteArray := prog_1_method_31_code
def yX6_whatWas : MethodName := ⟨RX6, "whatWas", "(II)I"⟩
abbrev cX6_longest : ByteArray := prog_1_method_32_code
def yX6_longest : MethodName := ⟨RX6, "longest", "(I)I"⟩
abbrev cX6_mean : ByteArray := prog_1_method_33_code
def yX6_mean : MethodName := ⟨RX6, "mean", "(I)J"⟩
abbrev cX6_early : ByteArray := prog_1_method_34_code
def yX6_early : MethodName := ⟨RX6, "early", "()I"⟩
abbrev cX6_worst : ByteArray := prog_1_method_35_code
def yX6_worst : MethodName := ⟨RX6, "worst", "()I"⟩
abbrev cX6_idle : ByteArray := prog_1_method_36_code
def yX6_idle : MethodName := ⟨RX6, "idle", "()I"⟩
abbrev cX6_span : ByteArray := prog_1_method_37_code
def yX6_span : MethodName := ⟨RX6, "span", "()I"⟩
abbrev cX6_swap : ByteArray := prog_1_method_38_code
def yX6_swap : MethodName := ⟨RX6, "swap", "()I"⟩
abbrev cX6_turned : ByteArray := prog_1_method_39_code
def yX6_turned : MethodName := ⟨RX6, "turned", "()I"⟩
abbrev cX6_shift : ByteArray := prog_1_method_40_code
def yX6_shift : MethodName := ⟨RX6, "shift", "()I"⟩
abbrev cX6_row : ByteArray := prog_1_method_41_code
def yX6_row : MethodName := ⟨RX6, "row", "(I)I"⟩
abbrev cX6_judge : ByteArray := prog_1_method_42_code
def yX6_judge : MethodName := ⟨RX6, "judge", "()I"⟩
abbrev cX6_clear : ByteArray := prog_1_method_43_code
def yX6_clear : MethodName := ⟨RX6, "clear", "()I"⟩
abbrev cX6_lots : ByteArray := prog_1_method_44_code
def yX6_lots : MethodName := ⟨RX6, "lots", "(III)I"⟩
abbrev cX6_image : ByteArray := prog_1_method_45_code
def yX6_image : MethodName := ⟨RX6, "image", "()I"⟩
abbrev cX6_restore : ByteArray := prog_1_method_46_code
def yX6_restore : MethodName := ⟨RX6, "restore", "()I"⟩
abbrev cX6_count : ByteArray := prog_1_method_47_code
def yX6_count : MethodName := ⟨RX6, "count", "(I)I"⟩
abbrev cX6_refused : ByteArray := prog_1_method_48_code
def yX6_refused : MethodName := ⟨RX6, "refused", "(I)I"⟩
abbrev cX6_asNow : ByteArray := prog_1_method_49_code
def yX6_asNow : MethodName := ⟨RX6, "asNow", "()LEveryTwentyMinutes$Hall;"⟩
abbrev cX6_inMind : ByteArray := prog_1_method_50_code
def yX6_inMind : MethodName := ⟨RX6, "inMind", "()LEveryTwentyMinutes$Hall;"⟩
abbrev cX6_lateBy : ByteArray := prog_1_method_51_code
def yX6_lateBy : MethodName := ⟨RX6, "lateBy", "(LEveryTwentyMinutes$Hall;)I"⟩
abbrev cX6_askedBy : ByteArray := prog_1_method_52_code
def yX6_askedBy : MethodName := ⟨RX6, "askedBy", "(IIII)LEveryTwentyMinutes$Hall;"⟩
abbrev cX6_oneIsContent : ByteArray := prog_1_method_53_code
def yX6_oneIsContent : MethodName := ⟨RX6, "oneIsContent", "(IIII)Z"⟩
abbrev cX6_otherIsContent : ByteArray := prog_1_method_54_code
def yX6_otherIsContent : MethodName := ⟨RX6, "otherIsContent", "(IIII)Z"⟩
abbrev cX6_kindsTold : ByteArray := prog_1_method_55_code
def yX6_kindsTold : MethodName := ⟨RX6, "kindsTold", "(I)I"⟩
abbrev cX6_figuresTold : ByteArray := prog_1_method_56_code
def yX6_figuresTold : MethodName := ⟨RX6, "figuresTold", "(I)I"⟩
abbrev cX6_minutesTold : ByteArray := prog_1_method_57_code
def yX6_minutesTold : MethodName := ⟨RX6, "minutesTold", "(IZ)I"⟩
abbrev cX6_endsAsTold : ByteArray := prog_1_method_58_code
def yX6_endsAsTold : MethodName := ⟨RX6, "endsAsTold", "(LEveryTwentyMinutes$Hall;)Z"⟩
abbrev cX6_power : ByteArray := prog_1_method_59_code
def yX6_power : MethodName := ⟨RX6, "power", "(II)J"⟩
abbrev cX6_lowest : ByteArray := prog_1_method_60_code
def yX6_lowest : MethodName := ⟨RX6, "lowest", "(JJI)J"⟩
def RX7 : String := "EveryTwentyMinutesModel"
def TX7 : u_T := fun k => match k with
  | 0 => ("EveryTwentyMinutesModel", "many", "I", false)
  | 1 => ("EveryTwentyMinutesModel", "kinds", "[I", true)
  | 2 => ("EveryTwentyMinutesModel", "figures", "[I", true)
  | 3 => ("EveryTwentyMinutesModel", "ats", "[I", true)
  | 4 => ("EveryTwentyMinutesModel", "weds0", "[I", true)
  | 5 => ("EveryTwentyMinutesModel", "begins", "[I", true)
  | 6 => ("EveryTwentyMinutesModel", "ends", "[I", true)
  | 7 => ("EveryTwentyMinutesModel", "roomOf", "[I", true)
  | 8 => ("EveryTwentyMinutesModel", "line", "[I", true)
  | 9 => ("EveryTwentyMinutesModel", "lined", "I", false)
  | 10 => ("EveryTwentyMinutesModel", "rooms0", "I", false)
  | 11 => ("EveryTwentyMinutesModel", "frees", "[I", true)
  | 12 => ("EveryTwentyMinutesModel", "tired", "I", false)
  | 13 => ("EveryTwentyMinutesModel", "slack0", "I", false)
  | 14 => ("EveryTwentyMinutesModel", "thrown", "I", false)
  | 15 => ("EveryTwentyMinutesModel", "refusals", "[I", true)
  | 16 => ("EveryTwentyMinutesModel", "letters", "[I", true)
  | 17 => ("EveryTwentyMinutesModel", "letterMany", "I", false)
  | 18 => ("EveryTwentyMinutesModel", "at0", "I", false)
  | 19 => ("EveryTwentyMinutesModel", "isBad", "Z", false)
  | 20 => ("EveryTwentyMinutesModel", "statements", "I", false)
  | 21 => ("EveryTwentyMinutesModel", "placeIn", "[I", true)
  | 22 => ("EveryTwentyMinutesModel", "letterOf", "[I", true)
  | 23 => ("EveryTwentyMinutesModel", "told", "[I", true)
  | 24 => ("EveryTwentyMinutesModel", "kept", "[I", true)
  | 25 => ("EveryTwentyMinutesModel", "imaged", "[I", true)
  | 26 => ("EveryTwentyMinutesModel", "hasImage", "Z", false)
  | 27 => ("EveryTwentyMinutesModel", "place0", "I", false)
  | 28 => ("EveryTwentyMinutesModel", "isTaking", "Z", false)
  | 29 => ("EveryTwentyMinutesModel", "keptIn", "[I", false)
  | 30 => ("EveryTwentyMinutesModel", "turns0", "[I", true)
  | 31 => ("EveryTwentyMinutesModel", "turnOf", "[I", true)
  | 32 => ("EveryTwentyMinutesModel", "turned0", "I", false)
  | 33 => ("EveryTwentyMinutesModel", "sorted", "[I", true)
  | 34 => ("EveryTwentyMinutesModel", "poseFrom", "[I", true)
  | 35 => ("EveryTwentyMinutesModel", "costs", "[I", true)
  | 36 => ("EveryTwentyMinutesModel", "row", "[I", true)
  | 37 => ("EveryTwentyMinutesModel", "rowMany", "I", false)
  | _ => ("EveryTwentyMinutesModel", "seed", "I", false)
def tyX7 : Nat → FieldType := fun k => match k with
  | 0 => .int
  | 1 => .array .int
  | 2 => .array .int
  | 3 => .array .int
  | 4 => .array .int
  | 5 => .array .int
  | 6 => .array .int
  | 7 => .array .int
  | 8 => .array .int
  | 9 => .int
  | 10 => .int
  | 11 => .array .int
  | 12 => .int
  | 13 => .int
  | 14 => .int
  | 15 => .array .int
  | 16 => .array .int
  | 17 => .int
  | 18 => .int
  | 19 => .boolean
  | 20 => .int
  | 21 => .array .int
  | 22 => .array .int
  | 23 => .array .int
  | 24 => .array .int
  | 25 => .array .int
  | 26 => .boolean
  | 27 => .int
  | 28 => .boolean
  | 29 => .array .int
  | 30 => .array .int
  | 31 => .array .int
  | 32 => .int
  | 33 => .array .int
  | 34 => .array .int
  | 35 => .array .int
  | 36 => .array .int
  | 37 => .int
  | _ => .int
abbrev wsX70 : List Cond := u_ws RX7 TX7 39
theorem nmX7 : ∀ a, a < 39 → ∀ b, b < 39 → a ≠ b → (TX7 a).2.1 ≠ (TX7 b).2.1 := by decide +kernel
theorem tyX7_ok : ∀ k, k < 39 → parseFieldDescriptor (TX7 k).2.2.1 = some (tyX7 k) := by decide +kernel
abbrev cX7_init : ByteArray := prog_9_method_1_code
def yX7_init : MethodName := ⟨RX7, "<init>", "()V"⟩
abbrev cX7_in : ByteArray := prog_9_method_3_code
def yX7_in : MethodName := ⟨RX7, "in", "(JJJ)Z"⟩
abbrev cX7_refuse : ByteArray := prog_9_method_4_code
def yX7_refuse : MethodName := ⟨RX7, "refuse", "(I)I"⟩
abbrev cX7_isCouple : ByteArray := prog_9_method_5_code
def yX7_isCouple : MethodName := ⟨RX7, "isCouple", "(I)Z"⟩
abbrev cX7_wrongNumber : ByteArray := prog_9_method_6_code
def yX7_wrongNumber : MethodName := ⟨RX7, "wrongNumber", "(III)I"⟩
abbrev cX7_wrongBit : ByteArray := prog_9_method_7_code
def yX7_wrongBit : MethodName := ⟨RX7, "wrongBit", "(III)I"⟩
abbrev cX7_hasBit : ByteArray := prog_9_method_8_code
def yX7_hasBit : MethodName := ⟨RX7, "hasBit", "(II)Z"⟩
abbrev cX7_least : ByteArray := prog_9_method_9_code
def yX7_least : MethodName := ⟨RX7, "least", "(II)I"⟩
abbrev cX7_most : ByteArray := prog_9_method_10_code
def yX7_most : MethodName := ⟨RX7, "most", "(II)I"⟩
abbrev cX7_lastsBy : ByteArray := prog_9_method_11_code
def yX7_lastsBy : MethodName := ⟨RX7, "lastsBy", "(II)I"⟩
abbrev cX7_readyOf : ByteArray := prog_9_method_12_code
def yX7_readyOf : MethodName := ⟨RX7, "readyOf", "(I)I"⟩
abbrev cX7_guestsOf : ByteArray := prog_9_method_13_code
def yX7_guestsOf : MethodName := ⟨RX7, "guestsOf", "(I)I"⟩
abbrev cX7_posesOf : ByteArray := prog_9_method_14_code
def yX7_posesOf : MethodName := ⟨RX7, "posesOf", "(I)I"⟩
abbrev cX7_restFor : ByteArray := prog_9_method_15_code
def yX7_restFor : MethodName := ⟨RX7, "restFor", "(I)V"⟩
abbrev cX7_firstOff : ByteArray := prog_9_method_16_code
def yX7_firstOff : MethodName := ⟨RX7, "firstOff", "()I"⟩
abbrev cX7_wedOne : ByteArray := prog_9_method_17_code
def yX7_wedOne : MethodName := ⟨RX7, "wedOne", "(I)V"⟩
abbrev cX7_wedAll : ByteArray := prog_9_method_18_code
def yX7_wedAll : MethodName := ⟨RX7, "wedAll", "()V"⟩
abbrev cX7_lateOf : ByteArray := prog_9_method_19_code
def yX7_lateOf : MethodName := ⟨RX7, "lateOf", "(I)I"⟩
abbrev cX7_allLate : ByteArray := prog_9_method_20_code
def yX7_allLate : MethodName := ⟨RX7, "allLate", "()I"⟩
abbrev cX7_lastEnd : ByteArray := prog_9_method_21_code
def yX7_lastEnd : MethodName := ⟨RX7, "lastEnd", "()I"⟩
abbrev cX7_isNear : ByteArray := prog_9_method_22_code
def yX7_isNear : MethodName := ⟨RX7, "isNear", "(II)Z"⟩
abbrev cX7_meet : ByteArray := prog_9_method_23_code
def yX7_meet : MethodName := ⟨RX7, "meet", "(II)Z"⟩
abbrev cX7_meetMany : ByteArray := prog_9_method_24_code
def yX7_meetMany : MethodName := ⟨RX7, "meetMany", "()I"⟩
abbrev cX7_placeOf : ByteArray := prog_9_method_25_code
def yX7_placeOf : MethodName := ⟨RX7, "placeOf", "(I)I"⟩
abbrev cX7_putFirst : ByteArray := prog_9_method_26_code
def yX7_putFirst : MethodName := ⟨RX7, "putFirst", "(I)V"⟩
abbrev cX7_coupleComes : ByteArray := prog_9_method_27_code
def yX7_coupleComes : MethodName := ⟨RX7, "coupleComes", "(III)Z"⟩
abbrev cX7_roomsBecome : ByteArray := prog_9_method_28_code
def yX7_roomsBecome : MethodName := ⟨RX7, "roomsBecome", "(I)V"⟩
abbrev cX7_feed : ByteArray := prog_9_method_29_code
def yX7_feed : MethodName := ⟨RX7, "feed", "(I)I"⟩
abbrev cX7_here : ByteArray := prog_9_method_30_code
def yX7_here : MethodName := ⟨RX7, "here", "()I"⟩
abbrev cX7_readDigits : ByteArray := prog_9_method_31_code
def yX7_readDigits : MethodName := ⟨RX7, "readDigits", "(I)I"⟩
abbrev cX7_isLetter : ByteArray := prog_9_method_32_code
def yX7_isLetter : MethodName := ⟨RX7, "isLetter", "(I)Z"⟩
abbrev cX7_readStatement : ByteArray := prog_9_method_33_code
def yX7_readStatement : MethodName := ⟨RX7, "readStatement", "()V"⟩
abbrev cX7_wedsCome : ByteArray := prog_9_method_34_code
def yX7_wedsCome : MethodName := ⟨RX7, "wedsCome", "(I)Z"⟩
abbrev cX7_comesTold : ByteArray := prog_9_method_35_code
def yX7_comesTold : MethodName := ⟨RX7, "comesTold", "(I)Z"⟩
abbrev cX7_hall : ByteArray := prog_9_method_36_code
def yX7_hall : MethodName := ⟨RX7, "hall", "()I"⟩
abbrev cX7_carry : ByteArray := prog_9_method_37_code
def yX7_carry : MethodName := ⟨RX7, "carry", "(I)I"⟩
abbrev cX7_carryAll : ByteArray := prog_9_method_38_code
def yX7_carryAll : MethodName := ⟨RX7, "carryAll", "([IZ)V"⟩
abbrev cX7_think : ByteArray := prog_9_method_39_code
def yX7_think : MethodName := ⟨RX7, "think", "()V"⟩
abbrev cX7_again : ByteArray := prog_9_method_40_code
def yX7_again : MethodName := ⟨RX7, "again", "()V"⟩
abbrev cX7_image : ByteArray := prog_9_method_41_code
def yX7_image : MethodName := ⟨RX7, "image", "()I"⟩
abbrev cX7_restore : ByteArray := prog_9_method_42_code
def yX7_restore : MethodName := ⟨RX7, "restore", "()I"⟩
abbrev cX7_keepTurn : ByteArray := prog_9_method_43_code
def yX7_keepTurn : MethodName := ⟨RX7, "keepTurn", "()V"⟩
abbrev cX7_back : ByteArray := prog_9_method_44_code
def yX7_back : MethodName := ⟨RX7, "back", "()I"⟩
abbrev cX7_coupleOf : ByteArray := prog_9_method_45_code
def yX7_coupleOf : MethodName := ⟨RX7, "coupleOf", "(II)I"⟩
abbrev cX7_order : ByteArray := prog_9_method_46_code
def yX7_order : MethodName := ⟨RX7, "order", "(I)I"⟩
abbrev cX7_free : ByteArray := prog_9_method_47_code
def yX7_free : MethodName := ⟨RX7, "free", "(I)I"⟩
abbrev cX7_couple : ByteArray := prog_9_method_48_code
def yX7_couple : MethodName := ⟨RX7, "couple", "(III)I"⟩
abbrev cX7_rooms : ByteArray := prog_9_method_49_code
def yX7_rooms : MethodName := ⟨RX7, "rooms", "(I)I"⟩
abbrev cX7_weds : ByteArray := prog_9_method_50_code
def yX7_weds : MethodName := ⟨RX7, "weds", "(I)I"⟩
abbrev cX7_pulls : ByteArray := prog_9_method_51_code
def yX7_pulls : MethodName := ⟨RX7, "pulls", "(I)I"⟩
abbrev cX7_slack : ByteArray := prog_9_method_52_code
def yX7_slack : MethodName := ⟨RX7, "slack", "(I)I"⟩
abbrev cX7_rests : ByteArray := prog_9_method_53_code
def yX7_rests : MethodName := ⟨RX7, "rests", "(I)I"⟩
abbrev cX7_when : ByteArray := prog_9_method_54_code
def yX7_when : MethodName := ⟨RX7, "when", "(II)I"⟩
abbrev cX7_waits : ByteArray := prog_9_method_55_code
def yX7_waits : MethodName := ⟨RX7, "waits", "(I)I"⟩
abbrev cX7_all : ByteArray := prog_9_method_56_code
def yX7_all : MethodName := ⟨RX7, "all", "(I)I"⟩
abbrev cX7_firstMet : ByteArray := prog_9_method_57_code
def yX7_firstMet : MethodName := ⟨RX7, "firstMet", "()I"⟩
abbrev cX7_strayedOne : ByteArray := prog_9_method_58_code
def yX7_strayedOne : MethodName := ⟨RX7, "strayedOne", "()I"⟩
abbrev cX7_met : ByteArray := prog_9_method_59_code
def yX7_met : MethodName := ⟨RX7, "met", "(I)I"⟩
abbrev cX7_laySorted : ByteArray := prog_9_method_60_code
def yX7_laySorted : MethodName := ⟨RX7, "laySorted", "()V"⟩
abbrev cX7_ordersOf : ByteArray := prog_9_method_61_code
def yX7_ordersOf : MethodName := ⟨RX7, "ordersOf", "(I)I"⟩
abbrev cX7_layOrder : ByteArray := prog_9_method_62_code
def yX7_layOrder : MethodName := ⟨RX7, "layOrder", "(I)V"⟩
abbrev cX7_lateNow : ByteArray := prog_9_method_63_code
def yX7_lateNow : MethodName := ⟨RX7, "lateNow", "()I"⟩
abbrev cX7_best : ByteArray := prog_9_method_64_code
def yX7_best : MethodName := ⟨RX7, "best", "(I)I"⟩
abbrev cX7_pull : ByteArray := prog_9_method_65_code
def yX7_pull : MethodName := ⟨RX7, "pull", "()I"⟩
abbrev cX7_bestSlack : ByteArray := prog_9_method_66_code
def yX7_bestSlack : MethodName := ⟨RX7, "bestSlack", "(I)I"⟩
abbrev cX7_rest : ByteArray := prog_9_method_67_code
def yX7_rest : MethodName := ⟨RX7, "rest", "()I"⟩
abbrev cX7_saved : ByteArray := prog_9_method_68_code
def yX7_saved : MethodName := ⟨RX7, "saved", "()I"⟩
abbrev cX7_can : ByteArray := prog_9_method_69_code
def yX7_can : MethodName := ⟨RX7, "can", "(III)I"⟩
abbrev cX7_nextPosing : ByteArray := prog_9_method_70_code
def yX7_nextPosing : MethodName := ⟨RX7, "nextPosing", "(I)I"⟩
abbrev cX7_pose : ByteArray := prog_9_method_71_code
def yX7_pose : MethodName := ⟨RX7, "pose", "()I"⟩
abbrev cX7_fountain : ByteArray := prog_9_method_72_code
def yX7_fountain : MethodName := ⟨RX7, "fountain", "(I)I"⟩
abbrev cX7_fountains : ByteArray := prog_9_method_73_code
def yX7_fountains : MethodName := ⟨RX7, "fountains", "(I)I"⟩
abbrev cX7_insideAt : ByteArray := prog_9_method_74_code
def yX7_insideAt : MethodName := ⟨RX7, "insideAt", "(I)I"⟩
abbrev cX7_inside : ByteArray := prog_9_method_75_code
def yX7_inside : MethodName := ⟨RX7, "inside", "(I)I"⟩
abbrev cX7_crowded : ByteArray := prog_9_method_76_code
def yX7_crowded : MethodName := ⟨RX7, "crowded", "()I"⟩
abbrev cX7_price : ByteArray := prog_9_method_77_code
def yX7_price : MethodName := ⟨RX7, "price", "(I)I"⟩
abbrev cX7_divisor : ByteArray := prog_9_method_78_code
def yX7_divisor : MethodName := ⟨RX7, "divisor", "(JJ)J"⟩
abbrev cX7_partOf : ByteArray := prog_9_method_79_code
def yX7_partOf : MethodName := ⟨RX7, "partOf", "(JJI)J"⟩
abbrev cX7_odds : ByteArray := prog_9_method_80_code
def yX7_odds : MethodName := ⟨RX7, "odds", "(IIII)J"⟩
abbrev cX7_two : ByteArray := prog_9_method_81_code
def yX7_two : MethodName := ⟨RX7, "two", "(II)I"⟩
abbrev cX7_isRow : ByteArray := prog_9_method_82_code
def yX7_isRow : MethodName := ⟨RX7, "isRow", "()Z"⟩
abbrev cX7_whenBy : ByteArray := prog_9_method_83_code
def yX7_whenBy : MethodName := ⟨RX7, "whenBy", "(II)I"⟩
abbrev cX7_whatWas : ByteArray := prog_9_method_84_code
def yX7_whatWas : MethodName := ⟨RX7, "whatWas", "(II)I"⟩
abbrev cX7_longest : ByteArray := prog_9_method_85_code
def yX7_longest : MethodName := ⟨RX7, "longest", "(I)I"⟩
abbrev cX7_mean : ByteArray := prog_9_method_86_code
def yX7_mean : MethodName := ⟨RX7, "mean", "(I)J"⟩
abbrev cX7_early : ByteArray := prog_9_method_87_code
def yX7_early : MethodName := ⟨RX7, "early", "()I"⟩
abbrev cX7_worst : ByteArray := prog_9_method_88_code
def yX7_worst : MethodName := ⟨RX7, "worst", "()I"⟩
abbrev cX7_idle : ByteArray := prog_9_method_89_code
def yX7_idle : MethodName := ⟨RX7, "idle", "()I"⟩
abbrev cX7_span : ByteArray := prog_9_method_90_code
def yX7_span : MethodName := ⟨RX7, "span", "()I"⟩
abbrev cX7_swap : ByteArray := prog_9_method_91_code
def yX7_swap : MethodName := ⟨RX7, "swap", "()I"⟩
abbrev cX7_turned : ByteArray := prog_9_method_92_code
def yX7_turned : MethodName := ⟨RX7, "turned", "()I"⟩
abbrev cX7_unwed : ByteArray := prog_9_method_93_code
def yX7_unwed : MethodName := ⟨RX7, "unwed", "()I"⟩
abbrev cX7_shift : ByteArray := prog_9_method_94_code
def yX7_shift : MethodName := ⟨RX7, "shift", "()I"⟩
abbrev cX7_row : ByteArray := prog_9_method_95_code
def yX7_row : MethodName := ⟨RX7, "row", "(I)I"⟩
abbrev cX7_judge : ByteArray := prog_9_method_96_code
def yX7_judge : MethodName := ⟨RX7, "judge", "()I"⟩
abbrev cX7_clear : ByteArray := prog_9_method_97_code
def yX7_clear : MethodName := ⟨RX7, "clear", "()I"⟩
abbrev cX7_drawBelow : ByteArray := prog_9_method_98_code
def yX7_drawBelow : MethodName := ⟨RX7, "drawBelow", "(I)I"⟩
abbrev cX7_lots : ByteArray := prog_9_method_99_code
def yX7_lots : MethodName := ⟨RX7, "lots", "(III)I"⟩
abbrev cX7_count : ByteArray := prog_9_method_100_code
def yX7_count : MethodName := ⟨RX7, "count", "(I)I"⟩
def RL : String := "EveryTwentyMinutesLaw"
abbrev cL_law : ByteArray := code
def yL_law : MethodName := ⟨RL, "law", "([I)Z"⟩
abbrev vwCl : List vw_C := [(RX0, TX0, 5), (RX1, TX1, 3), (RX2, TX2, 14), (RX4, TX4, 2), (RX5, TX5, 3), (RX6, TX6, 11), (RX7, TX7, 39)]
end
section
/-! THE FRAME. A world is a list of shapes by keys (64 * group + place) and a list of memories, one a group; XE says: from this frame of the machine, whenever the pure program o answers r, the machine comes to an end with Q r. A row an instruction. -/
def xT : List Cond := lw_tbl.filter goodWord
theorem xT_mem {w : Cond} (i : Nat) (h : lw_tbl[i]? = some w) (hg : goodWord w = true) : w ∈ xT := List.mem_filter.mpr ⟨List.mem_of_getElem? h, hg⟩
abbrev Mem : Type := Nat → Nat → Int32
abbrev XSh : Type := Nat ⊕ (List Nat ⊕ (Nat × List Nat))
abbrev XSs : Type := List (Nat × XSh)
abbrev XLs : Type := List (Nat × Option Value)
abbrev XR : Type := Option Value × List Mem
def lt {α β : Type} (x : α) (f : α → β) : β := f x
def ck {α : Type} (b : Bool) (o : Option α) : Option α := if b then o else none
def xs (m : Mem) (p k : Nat) (v : Int32) : Mem := fun q j => if q = p ∧ j = k then v else m q j
def xcp (m : Mem) (p : Nat) (f : Nat → Int32) (sp dp n : Nat) : Mem := fun q j => if q = p then va_cpy f (m p) sp dp n j else m q j
def inb (i : Int32) (n : Nat) : Bool := decide (0 ≤ i) && decide (i.toNatClampNeg < n)
def ix (i : Int32) : Nat := i.toNatClampNeg
def isb (v : Int32) : Bool := decide (v = 0) || decide (v = 1)
theorem inb_in {i : Int32} {n : Nat} (h : inb i n = true) : vp_in i n := by
  unfold inb at h
  simp only [Bool.and_eq_true, decide_eq_true_eq] at h
  intro q
  rcases q with q | q
  · exact absurd h.1 (by rw [Int32.not_le]; exact q)
  · omega
theorem narrow_isb {v : Int32} (h : isb v = true) : narrow .boolean (.int v) = .int v := by
  unfold isb at h
  simp only [Bool.or_eq_true, decide_eq_true_eq] at h
  rcases h with rfl | rfl <;> rfl
theorem fits_isb {v : Int32} (h : isb v = true) : fits .boolean (.int v) = true := by
  unfold isb at h
  simp only [Bool.or_eq_true, decide_eq_true_eq] at h
  rcases h with rfl | rfl <;> rfl
def x_cv (ad : Nat → Nat) (v : Value) : Value := match v with
  | .ref k => .ref (ad k)
  | w => w
/-- a field: 0 a number, 1 null, 2 a place of its own group that changes (0: null), k + 3 the cell of key k -/
def x_fv (ad : Nat → Nat) (g : Nat) (κ : Nat) (v : Int32) : Value := match κ with
  | 0 => .int v
  | 1 => .null
  | 2 => if v = 0 then .null else .ref (ad (64 * g + v.toNatClampNeg % 64))
  | k + 3 => .ref (ad k)
def x_fs (ad : Nat → Nat) (g : Nat) : List Nat → (Nat → Int32) → Nat → List Value
  | [], _, _ => []
  | κ :: r, m, i => x_fv ad g κ (m i) :: x_fs ad g r m (i + 1)
def x_rf (ad : Nat → Nat) (ks : List Nat) (i : Nat) : Option Nat := match ks.getD i 0 with
  | 0 => none
  | k + 1 => some (ad k)
def x_cell (cc : ClassId × ClassId) (ad : Nat → Nat) (k : Nat) (sh : XSh) (m : Nat → Int32) : va_E := match sh with
  | .inl n => .inl (cc.1, (n, .inl m))
  | .inr (.inl ks) => .inl (cc.2, (ks.length, .inr (.inr (.inr (.inr (x_rf ad ks))))))
  | .inr (.inr o) => .inr (o.1, x_fs ad (k / 64) o.2 m 0)
def x_hs (hs : List Mem) (k : Nat) : Nat → Int32 := (hs.getD (k / 64) (fun _ _ => 0)) (k % 64)
def x_w (cc : ClassId × ClassId) (ad : Nat → Nat) (shs : XSs) (hs : List Mem) : va_W := shs.map (fun q => (ad q.1, x_cell cc ad q.1 q.2 (x_hs hs q.1)))
def x_lk : XSs → Nat → Option XSh
  | [], _ => none
  | q :: r, k => if q.1 = k then some q.2 else x_lk r k
def xlk : XLs → Nat → Option Value
  | [], _ => none
  | q :: r, i => if q.1 = i then q.2 else xlk r i
def x_nl (ls : XLs) (i : Nat) : Bool := match i with
  | 0 => true
  | j + 1 => match xlk ls j with
    | some (.long _) => false
    | some (.double _) => false
    | _ => true
def x_ls (ad : Nat → Nat) (lsA : Array Slot) (nL : Nat) (ls : XLs) : Prop := ∃ l, lv_has lsA nL l ∧ ∀ i v, xlk ls i = some v → (i, x_cv ad v) ∈ l
abbrev XB : Type := Program × Launch × Env × Room × State × MethodId × Array Value × List Frame × Method × Code × va_G × (ClassId × ClassId) × (Nat → Prop) × Heap × (Nat → Nat) × XSs
/-- own class, code, locals, what it returns, its name, its depth -/
abbrev XM : Type := String × ByteArray × Nat × Option FieldType × String × Nat × Nat × Nat
abbrev x_dp (M : XM) : Nat := M.2.2.2.2.2.1
abbrev x_mc (M : XM) : Nat := M.2.2.2.2.2.2.1
abbrev x_ms (M : XM) : Nat := M.2.2.2.2.2.2.2
abbrev x_tys (cc : ClassId × ClassId) : List (ClassId × FieldType) := [(cc.1, .int), (cc.2, .object RX2)]
def XOk (B : XB) (M : XM) : Prop := match B with
  | (p, _, _, Rm, s, m, args, _, meth, c, D, cc, A, H0, _, _) => p.tables.exec = Jvm.exec ∧ c.code = M.2.1 ∧ c.maxLocals = M.2.2.1 ∧ s.vm.findClass M.1 = some m.cls ∧ (∀ w ∈ xT, w.before args s = true) ∧ va_K D vwCl (x_tys cc) s ∧ (∀ q, H0.size ≤ q → A q) ∧ meth.sig.returnType = M.2.2.2.1 ∧ meth.name = M.2.2.2.2.1 ∧ meth.locks = false ∧ x_dp M ≤ Rm.frames ∧ 40 * x_dp M ≤ Rm.locals ∧ H0 = s.heap ∧ x_mc M ≤ Rm.cells ∧ x_ms M ≤ Rm.slots
def XE {α R : Type} (B : XB) (M : XM) (Q : R → State → Prop) (pc : Nat) (ls : XLs) (st : List Value) (cs : Nat × Nat) (shs : XSs) (hs : List Mem) (k : α → Option R) (o : Option α) : Prop := match B with
  | (p, l, e, Rm, s, m, args, below, meth, c, D, cc, A, H0, ad0, shs0) =>
    XOk (p, l, e, Rm, s, m, args, below, meth, c, D, cc, A, H0, ad0, shs0) M → ∀ (ad : Nat → Nat) (H : Heap) (locs : List Loc) (lsA : Array Slot), va_P D vwCl (x_w cc ad shs hs) H → va_D A (x_w cc ad shs hs) → va_S A H0 H locs → ((∀ k, x_lk shs0 k ≠ none → x_lk shs k ≠ none) ∧ ∀ k, (x_lk shs0 k ≠ none ∨ x_lk shs k = none) → ad k = ad0 k) → x_ls ad lsA M.2.2.1 ls → ∀ r, o.bind k = some r → W p l e Rm s m args below meth c H locs cs.1 cs.2 (Q r) (F0 m pc lsA (st.map (x_cv ad)))

theorem x_ls.at {ad : Nat → Nat} {lsA : Array Slot} {nL : Nat} {ls : XLs} (h : x_ls ad lsA nL ls) {i : Nat} {v : Value} (hv : xlk ls i = some v) : lsA[i]? = some (.val (x_cv ad v)) := by
  obtain ⟨l, h1, h2⟩ := h
  exact h1.2.2 _ (h2 i v hv)
theorem x_ls.size {ad : Nat → Nat} {lsA : Array Slot} {nL : Nat} {ls : XLs} (h : x_ls ad lsA nL ls) : lsA.size = nL := by
  obtain ⟨l, h1, h2⟩ := h
  exact h1.1
theorem x_cv_cat (ad : Nat → Nat) (v : Value) : (x_cv ad v).category = v.category := by cases v <;> rfl
theorem x_nl_cat {ad : Nat → Nat} {ls : XLs} {j : Nat} {v : Value} (h : x_nl ls (j + 1) = true) (hv : xlk ls j = some v) : ((x_cv ad v).category == 2) = false := by
  rw [x_cv_cat]
  simp only [x_nl, hv] at h
  cases v <;> first | rfl | cases h
theorem x_ls.put {ad : Nat → Nat} {ls' : Array Slot} {nL : Nat} {ls : XLs} {l : List (Nat × Value)} {i : Nat} {v : Value} (h2 : ∀ i v, xlk ls i = some v → (i, x_cv ad v) ∈ l) (hn : x_nl ls i = true) (h : lv_has ls' nL ((i, x_cv ad v) :: l.filter (fun q => !(q.1 == i) && !(q.1 + 1 == i && q.2.category == 2)))) : x_ls ad ls' nL ((i, some v) :: ls) := by
  refine ⟨_, h, fun j u hj => ?_⟩
  unfold xlk at hj
  by_cases e : i = j
  · rw [if_pos e] at hj
    cases hj
    subst e
    exact List.mem_cons_self
  · rw [if_neg e] at hj
    refine List.mem_cons_of_mem _ (List.mem_filter.mpr ⟨h2 j u hj, ?_⟩)
    have e1 : (j == i) = false := by simp; omega
    by_cases e2 : j + 1 = i
    · subst e2
      have e3 := x_nl_cat (ad := ad) hn hj
      simp [e3]
    · have e4 : (j + 1 == i) = false := by simp; omega
      simp [e1, e4]
theorem x_ls.putL {ad : Nat → Nat} {ls' : Array Slot} {nL : Nat} {ls : XLs} {l : List (Nat × Value)} {i : Nat} {v : Value} (h2 : ∀ i v, xlk ls i = some v → (i, x_cv ad v) ∈ l) (hn : x_nl ls i = true) (h : lv_has ls' nL ((i, x_cv ad v) :: l.filter (fun q => !(q.1 == i) && (!(q.1 == i + 1) && !(q.1 + 1 == i && q.2.category == 2))))) : x_ls ad ls' nL ((i, some v) :: (i + 1, none) :: ls) := by
  refine ⟨_, h, fun j u hj => ?_⟩
  unfold xlk at hj
  by_cases e : i = j
  · rw [if_pos e] at hj
    cases hj
    subst e
    exact List.mem_cons_self
  · rw [if_neg e] at hj
    unfold xlk at hj
    by_cases e0 : i + 1 = j
    · rw [if_pos e0] at hj; cases hj
    rw [if_neg e0] at hj
    refine List.mem_cons_of_mem _ (List.mem_filter.mpr ⟨h2 j u hj, ?_⟩)
    have e1 : (j == i) = false := by simp; omega
    have e5 : (j == i + 1) = false := by simp; omega
    by_cases e2 : j + 1 = i
    · subst e2
      have e3 := x_nl_cat (ad := ad) hn hj
      have e6 : ¬ j = j + 1 + 1 := by omega
      simp [e3, e6]
    · have e4 : (j + 1 == i) = false := by simp; omega
      simp [e1, e4, e5]
theorem x_lk_at {shs : XSs} {k : Nat} {sh : XSh} (h : x_lk shs k = some sh) : ∃ i : Nat, shs[i]? = some (k, sh) := by
  induction shs with
  | nil => cases h
  | cons q r ih =>
    unfold x_lk at h
    by_cases e : q.1 = k
    · rw [if_pos e] at h
      cases h
      subst e
      exact ⟨0, rfl⟩
    · rw [if_neg e] at h
      obtain ⟨i, hi⟩ := ih h
      exact ⟨i + 1, hi⟩
theorem x_lk_some {shs : XSs} {i : Nat} {q : Nat × XSh} (h : shs[i]? = some q) : x_lk shs q.1 ≠ none := by
  induction shs generalizing i with
  | nil => simp at h
  | cons a r ih =>
    unfold x_lk
    by_cases e : a.1 = q.1
    · rw [if_pos e]; exact fun h => by cases h
    · rw [if_neg e]
      cases i with
      | zero => cases h; exact absurd rfl e
      | succ i => exact ih h
theorem x_w_at {cc : ClassId × ClassId} {ad : Nat → Nat} {shs : XSs} {hs : List Mem} {i k : Nat} {sh : XSh} (h : shs[i]? = some (k, sh)) : (x_w cc ad shs hs)[i]? = some (ad k, x_cell cc ad k sh (x_hs hs k)) := by
  unfold x_w
  rw [List.getElem?_map, h]; rfl
theorem x_w_of {cc : ClassId × ClassId} {ad : Nat → Nat} {shs : XSs} {hs : List Mem} {i : Nat} {q : Nat × va_E} (h : (x_w cc ad shs hs)[i]? = some q) : ∃ (k : Nat) (sh : XSh), shs[i]? = some (k, sh) ∧ q = (ad k, x_cell cc ad k sh (x_hs hs k)) := by
  unfold x_w at h
  rw [List.getElem?_map] at h
  cases e : shs[i]? with
  | none => rw [e] at h; cases h
  | some a => rw [e] at h; cases h; exact ⟨a.1, a.2, rfl, rfl⟩
theorem x_uniq {cc : ClassId × ClassId} {ad : Nat → Nat} {shs : XSs} {hs : List Mem} {A : Nat → Prop} (hD : va_D A (x_w cc ad shs hs)) {i j : Nat} {p q : Nat × XSh} (hi : shs[i]? = some p) (hj : shs[j]? = some q) (h : ad p.1 = ad q.1) : i = j := hD.1 i j _ _ (x_w_at (sh := p.2) (k := p.1) hi) (x_w_at (sh := q.2) (k := q.1) hj) h
theorem x_fs_len (ad : Nat → Nat) (g : Nat) (m : Nat → Int32) : ∀ (κs : List Nat) (i : Nat), (x_fs ad g κs m i).length = κs.length
  | [], _ => rfl
  | _ :: r, i => by simp [x_fs, x_fs_len ad g m r (i + 1)]
theorem x_fs_at (ad : Nat → Nat) (g : Nat) (m : Nat → Int32) : ∀ (κs : List Nat) (i j : Nat), (x_fs ad g κs m i)[j]? = (κs[j]?).map (fun κ => x_fv ad g κ (m (i + j)))
  | [], i, j => by simp [x_fs]
  | κ :: r, i, 0 => by simp [x_fs]
  | κ :: r, i, j + 1 => by
    simp only [x_fs, List.getElem?_cons_succ, x_fs_at ad g m r (i + 1) j]
    congr 1
    funext κ
    congr 2
    omega
/-- a write in one place of one group: what the world's cells are then -/
theorem x_P_set {cc : ClassId × ClassId} {ad : Nat → Nat} {shs : XSs} {hs : List Mem} {A : Nat → Prop} {D : va_G} {H1 : Heap} {i k : Nat} {sh : XSh} {m' : Mem} {e : va_E} (hi : shs[i]? = some (k, sh)) (hD : va_D A (x_w cc ad shs hs)) (hm : k / 64 < hs.length) (hsame : ∀ p, p ≠ k % 64 → m' p = (hs.getD (k / 64) (fun _ _ => 0)) p) (he : x_cell cc ad k sh (m' (k % 64)) = e) (h : va_P D vwCl ((x_w cc ad shs hs).set i (ad k, e)) H1) : va_P D vwCl (x_w cc ad shs (hs.set (k / 64) m')) H1 := by
  intro j q hq
  obtain ⟨k2, sh2, hj, rfl⟩ := x_w_of hq
  by_cases hij : i = j
  · subst hij
    cases hi.symm.trans hj
    have hl : i < (x_w cc ad shs hs).length := (List.getElem?_eq_some_iff.mp (x_w_at (cc := cc) (ad := ad) (hs := hs) hi)).1
    have h1 := h i (ad k, e) (by rw [List.getElem?_set_self hl])
    rw [← he] at h1
    have e1 : x_hs (hs.set (k / 64) m') k = m' (k % 64) := by
      unfold x_hs
      congr 1
      simp [List.getD, List.getElem?_set_self hm]
    rw [e1]
    exact h1
  · have hk : k2 ≠ k := fun z => hij (x_uniq hD hi hj (by rw [z]))
    have h1 := h j _ (by rw [List.getElem?_set_ne hij]; exact x_w_at (cc := cc) (ad := ad) (hs := hs) hj)
    have e1 : x_hs (hs.set (k / 64) m') k2 = x_hs hs k2 := by
      unfold x_hs
      by_cases hg : k / 64 = k2 / 64
      · have hp : k2 % 64 ≠ k % 64 := fun z => hk (by omega)
        rw [← hg]
        simp only [List.getD, List.getElem?_set_self hm, Option.getD_some]
        exact hsame _ hp
      · congr 1
        simp [List.getD, List.getElem?_set_ne hg]
    rw [e1]
    exact h1
theorem x_D_any {cc : ClassId × ClassId} {ad : Nat → Nat} {shs : XSs} {hs hs' : List Mem} {A : Nat → Prop} (hD : va_D A (x_w cc ad shs hs)) : va_D A (x_w cc ad shs hs') := by
  refine ⟨fun i j p q hi hj hpq => ?_, fun i q hi => ?_⟩
  · obtain ⟨k, sh, h1, rfl⟩ := x_w_of hi
    obtain ⟨k2, sh2, h2, rfl⟩ := x_w_of hj
    exact x_uniq hD h1 h2 hpq
  · obtain ⟨k, sh, h1, rfl⟩ := x_w_of hi
    have h2 := hD.2 i _ (x_w_at (cc := cc) (ad := ad) (hs := hs) h1)
    exact h2

theorem XE_iconst {α R : Type} {B : XB} {M : XM} {Q : R → State → Prop} {pc n : Nat} {ls : XLs} {st : List Value} {cs : Nat × Nat} {shs : XSs} {hs : List Mem} {k : α → Option R} {o : Option α} {i : Int} {v : Int32} (hd : decode M.2.1 pc = .ok (.iconst i, 1)) (hn : pc + 1 = n) (hv : Int32.ofInt i = v) (kk : XE B M Q n ls (.int v :: st) cs shs hs k o) : XE B M Q pc ls (st) cs shs hs k o := by
  subst hn
  obtain ⟨p, l, e, Rm, s, m, args, below, meth, c, D, cc, A, H0, ad0, shs0⟩ := B
  intro hO ad H locs lsA hP hD hS hA hL r hr
  exact lv_iconst hO.1 hO.2.1 hd hv (kk hO ad H locs lsA hP hD hS hA hL r hr)
theorem XE_bipush {α R : Type} {B : XB} {M : XM} {Q : R → State → Prop} {pc n : Nat} {ls : XLs} {st : List Value} {cs : Nat × Nat} {shs : XSs} {hs : List Mem} {k : α → Option R} {o : Option α} {i : Int} {v : Int32} (hd : decode M.2.1 pc = .ok (.bipush i, 2)) (hn : pc + 2 = n) (hv : (Int8.ofInt i).toInt32 = v) (kk : XE B M Q n ls (.int v :: st) cs shs hs k o) : XE B M Q pc ls (st) cs shs hs k o := by
  subst hn
  obtain ⟨p, l, e, Rm, s, m, args, below, meth, c, D, cc, A, H0, ad0, shs0⟩ := B
  intro hO ad H locs lsA hP hD hS hA hL r hr
  exact lv_bipush hO.1 hO.2.1 hd hv (kk hO ad H locs lsA hP hD hS hA hL r hr)
theorem XE_sipush {α R : Type} {B : XB} {M : XM} {Q : R → State → Prop} {pc n : Nat} {ls : XLs} {st : List Value} {cs : Nat × Nat} {shs : XSs} {hs : List Mem} {k : α → Option R} {o : Option α} {i : Int} {v : Int32} (hd : decode M.2.1 pc = .ok (.sipush i, 3)) (hn : pc + 3 = n) (hv : (Int16.ofInt i).toInt32 = v) (kk : XE B M Q n ls (.int v :: st) cs shs hs k o) : XE B M Q pc ls (st) cs shs hs k o := by
  subst hn
  obtain ⟨p, l, e, Rm, s, m, args, below, meth, c, D, cc, A, H0, ad0, shs0⟩ := B
  intro hO ad H locs lsA hP hD hS hA hL r hr
  exact lv_sipush hO.1 hO.2.1 hd hv (kk hO ad H locs lsA hP hD hS hA hL r hr)
theorem XE_lconst {α R : Type} {B : XB} {M : XM} {Q : R → State → Prop} {pc n : Nat} {ls : XLs} {st : List Value} {cs : Nat × Nat} {shs : XSs} {hs : List Mem} {k : α → Option R} {o : Option α} {i : Fin 2} {v : Int64} (hd : decode M.2.1 pc = .ok (.lconst i, 1)) (hn : pc + 1 = n) (hv : Int64.ofNat (i : Nat) = v) (kk : XE B M Q n ls (.long v :: st) cs shs hs k o) : XE B M Q pc ls (st) cs shs hs k o := by
  subst hn
  obtain ⟨p, l, e, Rm, s, m, args, below, meth, c, D, cc, A, H0, ad0, shs0⟩ := B
  intro hO ad H locs lsA hP hD hS hA hL r hr
  exact lv_lconst hO.1 hO.2.1 hd hv (kk hO ad H locs lsA hP hD hS hA hL r hr)
theorem XE_iadd {α R : Type} {B : XB} {M : XM} {Q : R → State → Prop} {pc n : Nat} {ls : XLs} {st : List Value} {cs : Nat × Nat} {shs : XSs} {hs : List Mem} {k : α → Option R} {o : Option α} {x y : Int32} (hd : decode M.2.1 pc = .ok (.iadd, 1)) (hn : pc + 1 = n) (kk : XE B M Q n ls (.int (x + y) :: st) cs shs hs k o) : XE B M Q pc ls (.int y :: .int x :: st) cs shs hs k o := by
  subst hn
  obtain ⟨p, l, e, Rm, s, m, args, below, meth, c, D, cc, A, H0, ad0, shs0⟩ := B
  intro hO ad H locs lsA hP hD hS hA hL r hr
  exact lv_iadd hO.1 hO.2.1 hd  (kk hO ad H locs lsA hP hD hS hA hL r hr)
theorem XE_isub {α R : Type} {B : XB} {M : XM} {Q : R → State → Prop} {pc n : Nat} {ls : XLs} {st : List Value} {cs : Nat × Nat} {shs : XSs} {hs : List Mem} {k : α → Option R} {o : Option α} {x y : Int32} (hd : decode M.2.1 pc = .ok (.isub, 1)) (hn : pc + 1 = n) (kk : XE B M Q n ls (.int (x - y) :: st) cs shs hs k o) : XE B M Q pc ls (.int y :: .int x :: st) cs shs hs k o := by
  subst hn
  obtain ⟨p, l, e, Rm, s, m, args, below, meth, c, D, cc, A, H0, ad0, shs0⟩ := B
  intro hO ad H locs lsA hP hD hS hA hL r hr
  exact lv_isub hO.1 hO.2.1 hd  (kk hO ad H locs lsA hP hD hS hA hL r hr)
theorem XE_imul {α R : Type} {B : XB} {M : XM} {Q : R → State → Prop} {pc n : Nat} {ls : XLs} {st : List Value} {cs : Nat × Nat} {shs : XSs} {hs : List Mem} {k : α → Option R} {o : Option α} {x y : Int32} (hd : decode M.2.1 pc = .ok (.imul, 1)) (hn : pc + 1 = n) (kk : XE B M Q n ls (.int (x * y) :: st) cs shs hs k o) : XE B M Q pc ls (.int y :: .int x :: st) cs shs hs k o := by
  subst hn
  obtain ⟨p, l, e, Rm, s, m, args, below, meth, c, D, cc, A, H0, ad0, shs0⟩ := B
  intro hO ad H locs lsA hP hD hS hA hL r hr
  exact lv_imul hO.1 hO.2.1 hd  (kk hO ad H locs lsA hP hD hS hA hL r hr)
theorem XE_iand {α R : Type} {B : XB} {M : XM} {Q : R → State → Prop} {pc n : Nat} {ls : XLs} {st : List Value} {cs : Nat × Nat} {shs : XSs} {hs : List Mem} {k : α → Option R} {o : Option α} {x y : Int32} (hd : decode M.2.1 pc = .ok (.iand, 1)) (hn : pc + 1 = n) (kk : XE B M Q n ls (.int (x &&& y) :: st) cs shs hs k o) : XE B M Q pc ls (.int y :: .int x :: st) cs shs hs k o := by
  subst hn
  obtain ⟨p, l, e, Rm, s, m, args, below, meth, c, D, cc, A, H0, ad0, shs0⟩ := B
  intro hO ad H locs lsA hP hD hS hA hL r hr
  exact lv_iand hO.1 hO.2.1 hd  (kk hO ad H locs lsA hP hD hS hA hL r hr)
theorem XE_ior {α R : Type} {B : XB} {M : XM} {Q : R → State → Prop} {pc n : Nat} {ls : XLs} {st : List Value} {cs : Nat × Nat} {shs : XSs} {hs : List Mem} {k : α → Option R} {o : Option α} {x y : Int32} (hd : decode M.2.1 pc = .ok (.ior, 1)) (hn : pc + 1 = n) (kk : XE B M Q n ls (.int (x ||| y) :: st) cs shs hs k o) : XE B M Q pc ls (.int y :: .int x :: st) cs shs hs k o := by
  subst hn
  obtain ⟨p, l, e, Rm, s, m, args, below, meth, c, D, cc, A, H0, ad0, shs0⟩ := B
  intro hO ad H locs lsA hP hD hS hA hL r hr
  exact lv_ior hO.1 hO.2.1 hd  (kk hO ad H locs lsA hP hD hS hA hL r hr)
theorem XE_ishl {α R : Type} {B : XB} {M : XM} {Q : R → State → Prop} {pc n : Nat} {ls : XLs} {st : List Value} {cs : Nat × Nat} {shs : XSs} {hs : List Mem} {k : α → Option R} {o : Option α} {x y : Int32} (hd : decode M.2.1 pc = .ok (.ishl, 1)) (hn : pc + 1 = n) (kk : XE B M Q n ls (.int (x <<< (y &&& 31)) :: st) cs shs hs k o) : XE B M Q pc ls (.int y :: .int x :: st) cs shs hs k o := by
  subst hn
  obtain ⟨p, l, e, Rm, s, m, args, below, meth, c, D, cc, A, H0, ad0, shs0⟩ := B
  intro hO ad H locs lsA hP hD hS hA hL r hr
  exact lv_ishl hO.1 hO.2.1 hd  (kk hO ad H locs lsA hP hD hS hA hL r hr)
theorem XE_ishr {α R : Type} {B : XB} {M : XM} {Q : R → State → Prop} {pc n : Nat} {ls : XLs} {st : List Value} {cs : Nat × Nat} {shs : XSs} {hs : List Mem} {k : α → Option R} {o : Option α} {x y : Int32} (hd : decode M.2.1 pc = .ok (.ishr, 1)) (hn : pc + 1 = n) (kk : XE B M Q n ls (.int (x >>> (y &&& 31)) :: st) cs shs hs k o) : XE B M Q pc ls (.int y :: .int x :: st) cs shs hs k o := by
  subst hn
  obtain ⟨p, l, e, Rm, s, m, args, below, meth, c, D, cc, A, H0, ad0, shs0⟩ := B
  intro hO ad H locs lsA hP hD hS hA hL r hr
  exact lv_ishr hO.1 hO.2.1 hd  (kk hO ad H locs lsA hP hD hS hA hL r hr)
theorem XE_idiv {α R : Type} {B : XB} {M : XM} {Q : R → State → Prop} {pc n : Nat} {ls : XLs} {st : List Value} {cs : Nat × Nat} {shs : XSs} {hs : List Mem} {k : α → Option R} {o : Option α} {x y : Int32} (hd : decode M.2.1 pc = .ok (.idiv, 1)) (hn : pc + 1 = n) (hne : ¬ y = 0) (kk : XE B M Q n ls (.int (x / y) :: st) cs shs hs k o) : XE B M Q pc ls (.int y :: .int x :: st) cs shs hs k o := by
  subst hn
  obtain ⟨p, l, e, Rm, s, m, args, below, meth, c, D, cc, A, H0, ad0, shs0⟩ := B
  intro hO ad H locs lsA hP hD hS hA hL r hr
  exact lv_idiv hO.1 hO.2.1 hd hne (kk hO ad H locs lsA hP hD hS hA hL r hr)
theorem XE_irem {α R : Type} {B : XB} {M : XM} {Q : R → State → Prop} {pc n : Nat} {ls : XLs} {st : List Value} {cs : Nat × Nat} {shs : XSs} {hs : List Mem} {k : α → Option R} {o : Option α} {x y : Int32} (hd : decode M.2.1 pc = .ok (.irem, 1)) (hn : pc + 1 = n) (hne : ¬ y = 0) (kk : XE B M Q n ls (.int (x - x / y * y) :: st) cs shs hs k o) : XE B M Q pc ls (.int y :: .int x :: st) cs shs hs k o := by
  subst hn
  obtain ⟨p, l, e, Rm, s, m, args, below, meth, c, D, cc, A, H0, ad0, shs0⟩ := B
  intro hO ad H locs lsA hP hD hS hA hL r hr
  exact lv_irem hO.1 hO.2.1 hd hne (kk hO ad H locs lsA hP hD hS hA hL r hr)
theorem XE_ineg {α R : Type} {B : XB} {M : XM} {Q : R → State → Prop} {pc n : Nat} {ls : XLs} {st : List Value} {cs : Nat × Nat} {shs : XSs} {hs : List Mem} {k : α → Option R} {o : Option α} {x : Int32} (hd : decode M.2.1 pc = .ok (.ineg, 1)) (hn : pc + 1 = n) (kk : XE B M Q n ls (.int (-x) :: st) cs shs hs k o) : XE B M Q pc ls (.int x :: st) cs shs hs k o := by
  subst hn
  obtain ⟨p, l, e, Rm, s, m, args, below, meth, c, D, cc, A, H0, ad0, shs0⟩ := B
  intro hO ad H locs lsA hP hD hS hA hL r hr
  exact lv_ineg hO.1 hO.2.1 hd  (kk hO ad H locs lsA hP hD hS hA hL r hr)
theorem XE_iushr {α R : Type} {B : XB} {M : XM} {Q : R → State → Prop} {pc n : Nat} {ls : XLs} {st : List Value} {cs : Nat × Nat} {shs : XSs} {hs : List Mem} {k : α → Option R} {o : Option α} {x y v : Int32} (hd : decode M.2.1 pc = .ok (.iushr, 1)) (hn : pc + 1 = n) (hv : (x.toUInt32 >>> (y.toUInt32 &&& Int32.toUInt32 31)).toInt32 = v) (kk : XE B M Q n ls (.int v :: st) cs shs hs k o) : XE B M Q pc ls (.int y :: .int x :: st) cs shs hs k o := by
  subst hn
  obtain ⟨p, l, e, Rm, s, m, args, below, meth, c, D, cc, A, H0, ad0, shs0⟩ := B
  intro hO ad H locs lsA hP hD hS hA hL r hr
  exact lv_iushr hO.1 hO.2.1 hd hv (kk hO ad H locs lsA hP hD hS hA hL r hr)
theorem XE_i2l {α R : Type} {B : XB} {M : XM} {Q : R → State → Prop} {pc n : Nat} {ls : XLs} {st : List Value} {cs : Nat × Nat} {shs : XSs} {hs : List Mem} {k : α → Option R} {o : Option α} {x : Int32} (hd : decode M.2.1 pc = .ok (.i2l, 1)) (hn : pc + 1 = n) (kk : XE B M Q n ls (.long x.toInt64 :: st) cs shs hs k o) : XE B M Q pc ls (.int x :: st) cs shs hs k o := by
  subst hn
  obtain ⟨p, l, e, Rm, s, m, args, below, meth, c, D, cc, A, H0, ad0, shs0⟩ := B
  intro hO ad H locs lsA hP hD hS hA hL r hr
  exact lv_i2l hO.1 hO.2.1 hd rfl (kk hO ad H locs lsA hP hD hS hA hL r hr)
theorem XE_ladd {α R : Type} {B : XB} {M : XM} {Q : R → State → Prop} {pc n : Nat} {ls : XLs} {st : List Value} {cs : Nat × Nat} {shs : XSs} {hs : List Mem} {k : α → Option R} {o : Option α} {x y : Int64} (hd : decode M.2.1 pc = .ok (.ladd, 1)) (hn : pc + 1 = n) (kk : XE B M Q n ls (.long (x + y) :: st) cs shs hs k o) : XE B M Q pc ls (.long y :: .long x :: st) cs shs hs k o := by
  subst hn
  obtain ⟨p, l, e, Rm, s, m, args, below, meth, c, D, cc, A, H0, ad0, shs0⟩ := B
  intro hO ad H locs lsA hP hD hS hA hL r hr
  exact lv_ladd hO.1 hO.2.1 hd  (kk hO ad H locs lsA hP hD hS hA hL r hr)
theorem XE_lsub {α R : Type} {B : XB} {M : XM} {Q : R → State → Prop} {pc n : Nat} {ls : XLs} {st : List Value} {cs : Nat × Nat} {shs : XSs} {hs : List Mem} {k : α → Option R} {o : Option α} {x y : Int64} (hd : decode M.2.1 pc = .ok (.lsub, 1)) (hn : pc + 1 = n) (kk : XE B M Q n ls (.long (x - y) :: st) cs shs hs k o) : XE B M Q pc ls (.long y :: .long x :: st) cs shs hs k o := by
  subst hn
  obtain ⟨p, l, e, Rm, s, m, args, below, meth, c, D, cc, A, H0, ad0, shs0⟩ := B
  intro hO ad H locs lsA hP hD hS hA hL r hr
  exact lv_lsub hO.1 hO.2.1 hd  (kk hO ad H locs lsA hP hD hS hA hL r hr)
theorem XE_lmul {α R : Type} {B : XB} {M : XM} {Q : R → State → Prop} {pc n : Nat} {ls : XLs} {st : List Value} {cs : Nat × Nat} {shs : XSs} {hs : List Mem} {k : α → Option R} {o : Option α} {x y : Int64} (hd : decode M.2.1 pc = .ok (.lmul, 1)) (hn : pc + 1 = n) (kk : XE B M Q n ls (.long (x * y) :: st) cs shs hs k o) : XE B M Q pc ls (.long y :: .long x :: st) cs shs hs k o := by
  subst hn
  obtain ⟨p, l, e, Rm, s, m, args, below, meth, c, D, cc, A, H0, ad0, shs0⟩ := B
  intro hO ad H locs lsA hP hD hS hA hL r hr
  exact lv_lmul hO.1 hO.2.1 hd  (kk hO ad H locs lsA hP hD hS hA hL r hr)
theorem XE_lcmp {α R : Type} {B : XB} {M : XM} {Q : R → State → Prop} {pc n : Nat} {ls : XLs} {st : List Value} {cs : Nat × Nat} {shs : XSs} {hs : List Mem} {k : α → Option R} {o : Option α} {x y : Int64} (hd : decode M.2.1 pc = .ok (.lcmp, 1)) (hn : pc + 1 = n) (kk : XE B M Q n ls (.int (lg_cmp x y) :: st) cs shs hs k o) : XE B M Q pc ls (.long y :: .long x :: st) cs shs hs k o := by
  subst hn
  obtain ⟨p, l, e, Rm, s, m, args, below, meth, c, D, cc, A, H0, ad0, shs0⟩ := B
  intro hO ad H locs lsA hP hD hS hA hL r hr
  exact W.lcmp hO.1 hO.2.1 hd  (kk hO ad H locs lsA hP hD hS hA hL r hr)
theorem XE_dup {α R : Type} {B : XB} {M : XM} {Q : R → State → Prop} {pc n : Nat} {ls : XLs} {st : List Value} {cs : Nat × Nat} {shs : XSs} {hs : List Mem} {k : α → Option R} {o : Option α} {v : Value} (hd : decode M.2.1 pc = .ok (.dup, 1)) (hn : pc + 1 = n) (hv : v.category = 1) (kk : XE B M Q n ls (v :: v :: st) cs shs hs k o) : XE B M Q pc ls (v :: st) cs shs hs k o := by
  subst hn
  obtain ⟨p, l, e, Rm, s, m, args, below, meth, c, D, cc, A, H0, ad0, shs0⟩ := B
  intro hO ad H locs lsA hP hD hS hA hL r hr
  exact lv_dup hO.1 hO.2.1 hd ((x_cv_cat _ _).trans hv) (kk hO ad H locs lsA hP hD hS hA hL r hr)
theorem XE_pop {α R : Type} {B : XB} {M : XM} {Q : R → State → Prop} {pc n : Nat} {ls : XLs} {st : List Value} {cs : Nat × Nat} {shs : XSs} {hs : List Mem} {k : α → Option R} {o : Option α} {v : Value} (hd : decode M.2.1 pc = .ok (.pop, 1)) (hn : pc + 1 = n) (hv : v.category = 1) (kk : XE B M Q n ls (st) cs shs hs k o) : XE B M Q pc ls (v :: st) cs shs hs k o := by
  subst hn
  obtain ⟨p, l, e, Rm, s, m, args, below, meth, c, D, cc, A, H0, ad0, shs0⟩ := B
  intro hO ad H locs lsA hP hD hS hA hL r hr
  exact lv_pop hO.1 hO.2.1 hd ((x_cv_cat _ _).trans hv) (kk hO ad H locs lsA hP hD hS hA hL r hr)
theorem XE_dup2 {α R : Type} {B : XB} {M : XM} {Q : R → State → Prop} {pc n : Nat} {ls : XLs} {st : List Value} {cs : Nat × Nat} {shs : XSs} {hs : List Mem} {k : α → Option R} {o : Option α} {v u : Value} (hd : decode M.2.1 pc = .ok (.dup2, 1)) (hn : pc + 1 = n) (hv : v.category = 1) (hu : u.category = 1) (kk : XE B M Q n ls (v :: u :: v :: u :: st) cs shs hs k o) : XE B M Q pc ls (v :: u :: st) cs shs hs k o := by
  subst hn
  obtain ⟨p, l, e, Rm, s, m, args, below, meth, c, D, cc, A, H0, ad0, shs0⟩ := B
  intro hO ad H locs lsA hP hD hS hA hL r hr
  exact lv_dup2_11 hO.1 hO.2.1 hd ((x_cv_cat _ _).trans hv) ((x_cv_cat _ _).trans hu) (kk hO ad H locs lsA hP hD hS hA hL r hr)
theorem XE_ldiv {α R : Type} {B : XB} {M : XM} {Q : R → State → Prop} {pc n : Nat} {ls : XLs} {st : List Value} {cs : Nat × Nat} {shs : XSs} {hs : List Mem} {k : α → Option R} {o : Option α} {x y : Int64} (hd : decode M.2.1 pc = .ok (.ldiv, 1)) (hn : pc + 1 = n) (kk : XE B M Q n ls (.long (x / y) :: st) cs shs hs k o) : XE B M Q pc ls (.long y :: .long x :: st) cs shs hs k (ck (!decide (y = 0)) o) := by
  subst hn
  obtain ⟨p, l, e, Rm, s, m, args, below, meth, c, D, cc, A, H0, ad0, shs0⟩ := B
  intro hO ad H locs lsA hP hD hS hA hL r hr
  by_cases hy : y = 0
  · simp [ck, hy] at hr
  · simp only [ck, hy, decide_false, Bool.not_false, if_true] at hr
    exact lv_ldiv hO.1 hO.2.1 hd hy (kk hO ad H locs lsA hP hD hS hA hL r hr)
theorem XE_idiv_ck {α R : Type} {B : XB} {M : XM} {Q : R → State → Prop} {pc n : Nat} {ls : XLs} {st : List Value} {cs : Nat × Nat} {shs : XSs} {hs : List Mem} {k : α → Option R} {o : Option α} {x y : Int32} (hd : decode M.2.1 pc = .ok (.idiv, 1)) (hn : pc + 1 = n) (kk : XE B M Q n ls (.int (x / y) :: st) cs shs hs k o) : XE B M Q pc ls (.int y :: .int x :: st) cs shs hs k (ck (!decide (y = 0)) o) := by
  subst hn
  obtain ⟨p, l, e, Rm, s, m, args, below, meth, c, D, cc, A, H0, ad0, shs0⟩ := B
  intro hO ad H locs lsA hP hD hS hA hL r hr
  by_cases hy : y = 0
  · simp [ck, hy] at hr
  · simp only [ck, hy, decide_false, Bool.not_false, if_true] at hr
    exact lv_idiv hO.1 hO.2.1 hd hy (kk hO ad H locs lsA hP hD hS hA hL r hr)
theorem XE_lrem {α R : Type} {B : XB} {M : XM} {Q : R → State → Prop} {pc n : Nat} {ls : XLs} {st : List Value} {cs : Nat × Nat} {shs : XSs} {hs : List Mem} {k : α → Option R} {o : Option α} {x y : Int64} (hd : decode M.2.1 pc = .ok (.lrem, 1)) (hn : pc + 1 = n) (kk : XE B M Q n ls (.long (x - x / y * y) :: st) cs shs hs k o) : XE B M Q pc ls (.long y :: .long x :: st) cs shs hs k (ck (!decide (y = 0)) o) := by
  subst hn
  obtain ⟨p, l, e, Rm, s, m, args, below, meth, c, D, cc, A, H0, ad0, shs0⟩ := B
  intro hO ad H locs lsA hP hD hS hA hL r hr
  by_cases hy : y = 0
  · simp [ck, hy] at hr
  · simp only [ck, hy, decide_false, Bool.not_false, if_true] at hr
    exact lv_lrem hO.1 hO.2.1 hd hy (kk hO ad H locs lsA hP hD hS hA hL r hr)
theorem XE_irem_ck {α R : Type} {B : XB} {M : XM} {Q : R → State → Prop} {pc n : Nat} {ls : XLs} {st : List Value} {cs : Nat × Nat} {shs : XSs} {hs : List Mem} {k : α → Option R} {o : Option α} {x y : Int32} (hd : decode M.2.1 pc = .ok (.irem, 1)) (hn : pc + 1 = n) (kk : XE B M Q n ls (.int (x - x / y * y) :: st) cs shs hs k o) : XE B M Q pc ls (.int y :: .int x :: st) cs shs hs k (ck (!decide (y = 0)) o) := by
  subst hn
  obtain ⟨p, l, e, Rm, s, m, args, below, meth, c, D, cc, A, H0, ad0, shs0⟩ := B
  intro hO ad H locs lsA hP hD hS hA hL r hr
  by_cases hy : y = 0
  · simp [ck, hy] at hr
  · simp only [ck, hy, decide_false, Bool.not_false, if_true] at hr
    exact lv_irem hO.1 hO.2.1 hd hy (kk hO ad H locs lsA hP hD hS hA hL r hr)
theorem XE_ldc {α R : Type} {B : XB} {M : XM} {Q : R → State → Prop} {pc n : Nat} {ls : XLs} {st : List Value} {cs : Nat × Nat} {shs : XSs} {hs : List Mem} {k : α → Option R} {o : Option α} {i : Nat} {v : Int32} (hd : decode M.2.1 pc = .ok (.ldc i, 2)) (hn : pc + 2 = n) (hc : Cond.constant M.1 i v ∈ xT) (kk : XE B M Q n ls (.int v :: st) cs shs hs k o) : XE B M Q pc ls (st) cs shs hs k o := by
  subst hn
  obtain ⟨p, l, e, Rm, s, m, args, below, meth, c, D, cc, A, H0, ad0, shs0⟩ := B
  intro hO ad H locs lsA hP hD hS hA hL r hr
  exact lv_ldc hO.1 hO.2.1 hO.2.2.2.1 (hO.2.2.2.2.1 _ hc) hd (kk hO ad H locs lsA hP hD hS hA hL r hr)
theorem XE_ldc_w {α R : Type} {B : XB} {M : XM} {Q : R → State → Prop} {pc n : Nat} {ls : XLs} {st : List Value} {cs : Nat × Nat} {shs : XSs} {hs : List Mem} {k : α → Option R} {o : Option α} {i : Nat} {v : Int32} (hd : decode M.2.1 pc = .ok (.ldc_w i, 3)) (hn : pc + 3 = n) (hc : Cond.constant M.1 i v ∈ xT) (kk : XE B M Q n ls (.int v :: st) cs shs hs k o) : XE B M Q pc ls (st) cs shs hs k o := by
  subst hn
  obtain ⟨p, l, e, Rm, s, m, args, below, meth, c, D, cc, A, H0, ad0, shs0⟩ := B
  intro hO ad H locs lsA hP hD hS hA hL r hr
  exact lv_ldcw hO.1 hO.2.1 hO.2.2.2.1 (hO.2.2.2.2.1 _ hc) hd (kk hO ad H locs lsA hP hD hS hA hL r hr)
theorem XE_ldc2 {α R : Type} {B : XB} {M : XM} {Q : R → State → Prop} {pc n : Nat} {ls : XLs} {st : List Value} {cs : Nat × Nat} {shs : XSs} {hs : List Mem} {k : α → Option R} {o : Option α} {i : Nat} {v : Int64} (hd : decode M.2.1 pc = .ok (.ldc2_w i, 3)) (hn : pc + 3 = n) (hc : Cond.constantLong M.1 i v ∈ xT) (kk : XE B M Q n ls (.long v :: st) cs shs hs k o) : XE B M Q pc ls (st) cs shs hs k o := by
  subst hn
  obtain ⟨p, l, e, Rm, s, m, args, below, meth, c, D, cc, A, H0, ad0, shs0⟩ := B
  intro hO ad H locs lsA hP hD hS hA hL r hr
  exact lv_ldc2 hO.1 hO.2.1 hO.2.2.2.1 (hO.2.2.2.2.1 _ hc) hd (kk hO ad H locs lsA hP hD hS hA hL r hr)
theorem XE_iload_n {α R : Type} {B : XB} {M : XM} {Q : R → State → Prop} {pc n : Nat} {ls : XLs} {st : List Value} {cs : Nat × Nat} {shs : XSs} {hs : List Mem} {k : α → Option R} {o : Option α} {f : Fin 4} {i : Nat} {x : Int32} (hd : decode M.2.1 pc = .ok (.iload_n f, 1)) (hn : pc + 1 = n) (hf : (f : Nat) = i) (hl : xlk ls i = some (.int x)) (kk : XE B M Q n ls (.int x :: st) cs shs hs k o) : XE B M Q pc ls (st) cs shs hs k o := by
  subst hn
  obtain ⟨p, l, e, Rm, s, m, args, below, meth, c, D, cc, A, H0, ad0, shs0⟩ := B
  intro hO ad H locs lsA hP hD hS hA hL r hr
  exact lv_iload_n hO.1 hO.2.1 hd hf (hL.at hl) (kk hO ad H locs lsA hP hD hS hA hL r hr)
theorem XE_iload {α R : Type} {B : XB} {M : XM} {Q : R → State → Prop} {pc n : Nat} {ls : XLs} {st : List Value} {cs : Nat × Nat} {shs : XSs} {hs : List Mem} {k : α → Option R} {o : Option α} {i : Nat} {x : Int32} (hd : decode M.2.1 pc = .ok (.iload i, 2)) (hn : pc + 2 = n) (hl : xlk ls i = some (.int x)) (kk : XE B M Q n ls (.int x :: st) cs shs hs k o) : XE B M Q pc ls (st) cs shs hs k o := by
  subst hn
  obtain ⟨p, l, e, Rm, s, m, args, below, meth, c, D, cc, A, H0, ad0, shs0⟩ := B
  intro hO ad H locs lsA hP hD hS hA hL r hr
  exact lv_iload hO.1 hO.2.1 hd (hL.at hl) (kk hO ad H locs lsA hP hD hS hA hL r hr)
theorem XE_istore_n {α R : Type} {B : XB} {M : XM} {Q : R → State → Prop} {pc n : Nat} {ls : XLs} {st : List Value} {cs : Nat × Nat} {shs : XSs} {hs : List Mem} {k : α → Option R} {o : Option α} {f : Fin 4} {i : Nat} {x : Int32} (hd : decode M.2.1 pc = .ok (.istore_n f, 1)) (hn : pc + 1 = n) (hf : (f : Nat) = i) (hb : i < M.2.2.1) (hq : x_nl ls i = true) (kk : XE B M Q n ((i, some (.int x)) :: ls) (st) cs shs hs k o) : XE B M Q pc ls (.int x :: st) cs shs hs k o := by
  subst hn
  obtain ⟨p, l, e, Rm, s, m, args, below, meth, c, D, cc, A, H0, ad0, shs0⟩ := B
  intro hO ad H locs lsA hP hD hS hA hL r hr
  obtain ⟨l0, hl1, hl2⟩ := hL
  exact lv_istore_n hO.1 hO.2.1 hd hf hl1 hb rfl (fun ls' hl' => kk hO ad H locs ls' hP hD hS hA (x_ls.put (ls := ls) (v := .int x) hl2 hq hl') r hr)
theorem XE_istore {α R : Type} {B : XB} {M : XM} {Q : R → State → Prop} {pc n : Nat} {ls : XLs} {st : List Value} {cs : Nat × Nat} {shs : XSs} {hs : List Mem} {k : α → Option R} {o : Option α} {i : Nat} {x : Int32} (hd : decode M.2.1 pc = .ok (.istore i, 2)) (hn : pc + 2 = n) (hb : i < M.2.2.1) (hq : x_nl ls i = true) (kk : XE B M Q n ((i, some (.int x)) :: ls) (st) cs shs hs k o) : XE B M Q pc ls (.int x :: st) cs shs hs k o := by
  subst hn
  obtain ⟨p, l, e, Rm, s, m, args, below, meth, c, D, cc, A, H0, ad0, shs0⟩ := B
  intro hO ad H locs lsA hP hD hS hA hL r hr
  obtain ⟨l0, hl1, hl2⟩ := hL
  exact lv_istore hO.1 hO.2.1 hd hl1 hb rfl (fun ls' hl' => kk hO ad H locs ls' hP hD hS hA (x_ls.put (ls := ls) (v := .int x) hl2 hq hl') r hr)
theorem XE_lload_n {α R : Type} {B : XB} {M : XM} {Q : R → State → Prop} {pc n : Nat} {ls : XLs} {st : List Value} {cs : Nat × Nat} {shs : XSs} {hs : List Mem} {k : α → Option R} {o : Option α} {f : Fin 4} {i : Nat} {x : Int64} (hd : decode M.2.1 pc = .ok (.lload_n f, 1)) (hn : pc + 1 = n) (hf : (f : Nat) = i) (hl : xlk ls i = some (.long x)) (kk : XE B M Q n ls (.long x :: st) cs shs hs k o) : XE B M Q pc ls (st) cs shs hs k o := by
  subst hn
  obtain ⟨p, l, e, Rm, s, m, args, below, meth, c, D, cc, A, H0, ad0, shs0⟩ := B
  intro hO ad H locs lsA hP hD hS hA hL r hr
  exact lv_lload_n hO.1 hO.2.1 hd hf (hL.at hl) (kk hO ad H locs lsA hP hD hS hA hL r hr)
theorem XE_lload {α R : Type} {B : XB} {M : XM} {Q : R → State → Prop} {pc n : Nat} {ls : XLs} {st : List Value} {cs : Nat × Nat} {shs : XSs} {hs : List Mem} {k : α → Option R} {o : Option α} {i : Nat} {x : Int64} (hd : decode M.2.1 pc = .ok (.lload i, 2)) (hn : pc + 2 = n) (hl : xlk ls i = some (.long x)) (kk : XE B M Q n ls (.long x :: st) cs shs hs k o) : XE B M Q pc ls (st) cs shs hs k o := by
  subst hn
  obtain ⟨p, l, e, Rm, s, m, args, below, meth, c, D, cc, A, H0, ad0, shs0⟩ := B
  intro hO ad H locs lsA hP hD hS hA hL r hr
  exact lv_lload hO.1 hO.2.1 hd (hL.at hl) (kk hO ad H locs lsA hP hD hS hA hL r hr)
theorem XE_lstore_n {α R : Type} {B : XB} {M : XM} {Q : R → State → Prop} {pc n : Nat} {ls : XLs} {st : List Value} {cs : Nat × Nat} {shs : XSs} {hs : List Mem} {k : α → Option R} {o : Option α} {f : Fin 4} {i : Nat} {x : Int64} (hd : decode M.2.1 pc = .ok (.lstore_n f, 1)) (hn : pc + 1 = n) (hf : (f : Nat) = i) (hb : i + 1 < M.2.2.1) (hq : x_nl ls i = true) (kk : XE B M Q n ((i, some (.long x)) :: (i + 1, none) :: ls) (st) cs shs hs k o) : XE B M Q pc ls (.long x :: st) cs shs hs k o := by
  subst hn
  obtain ⟨p, l, e, Rm, s, m, args, below, meth, c, D, cc, A, H0, ad0, shs0⟩ := B
  intro hO ad H locs lsA hP hD hS hA hL r hr
  obtain ⟨l0, hl1, hl2⟩ := hL
  exact lv_lstore_n hO.1 hO.2.1 hd hf hl1 hb rfl (fun ls' hl' => kk hO ad H locs ls' hP hD hS hA (x_ls.putL (ls := ls) (v := .long x) hl2 hq hl') r hr)
theorem XE_lstore {α R : Type} {B : XB} {M : XM} {Q : R → State → Prop} {pc n : Nat} {ls : XLs} {st : List Value} {cs : Nat × Nat} {shs : XSs} {hs : List Mem} {k : α → Option R} {o : Option α} {i : Nat} {x : Int64} (hd : decode M.2.1 pc = .ok (.lstore i, 2)) (hn : pc + 2 = n) (hb : i + 1 < M.2.2.1) (hq : x_nl ls i = true) (kk : XE B M Q n ((i, some (.long x)) :: (i + 1, none) :: ls) (st) cs shs hs k o) : XE B M Q pc ls (.long x :: st) cs shs hs k o := by
  subst hn
  obtain ⟨p, l, e, Rm, s, m, args, below, meth, c, D, cc, A, H0, ad0, shs0⟩ := B
  intro hO ad H locs lsA hP hD hS hA hL r hr
  obtain ⟨l0, hl1, hl2⟩ := hL
  exact lv_lstore hO.1 hO.2.1 hd hl1 hb rfl (fun ls' hl' => kk hO ad H locs ls' hP hD hS hA (x_ls.putL (ls := ls) (v := .long x) hl2 hq hl') r hr)
theorem XE_aload_n {α R : Type} {B : XB} {M : XM} {Q : R → State → Prop} {pc n : Nat} {ls : XLs} {st : List Value} {cs : Nat × Nat} {shs : XSs} {hs : List Mem} {k : α → Option R} {o : Option α} {f : Fin 4} {i : Nat} {x : Nat} (hd : decode M.2.1 pc = .ok (.aload_n f, 1)) (hn : pc + 1 = n) (hf : (f : Nat) = i) (hl : xlk ls i = some (.ref x)) (kk : XE B M Q n ls (.ref x :: st) cs shs hs k o) : XE B M Q pc ls (st) cs shs hs k o := by
  subst hn
  obtain ⟨p, l, e, Rm, s, m, args, below, meth, c, D, cc, A, H0, ad0, shs0⟩ := B
  intro hO ad H locs lsA hP hD hS hA hL r hr
  exact lv_aload_n hO.1 hO.2.1 hd hf (hL.at hl) (kk hO ad H locs lsA hP hD hS hA hL r hr)
theorem XE_aload {α R : Type} {B : XB} {M : XM} {Q : R → State → Prop} {pc n : Nat} {ls : XLs} {st : List Value} {cs : Nat × Nat} {shs : XSs} {hs : List Mem} {k : α → Option R} {o : Option α} {i : Nat} {x : Nat} (hd : decode M.2.1 pc = .ok (.aload i, 2)) (hn : pc + 2 = n) (hl : xlk ls i = some (.ref x)) (kk : XE B M Q n ls (.ref x :: st) cs shs hs k o) : XE B M Q pc ls (st) cs shs hs k o := by
  subst hn
  obtain ⟨p, l, e, Rm, s, m, args, below, meth, c, D, cc, A, H0, ad0, shs0⟩ := B
  intro hO ad H locs lsA hP hD hS hA hL r hr
  exact lv_aload hO.1 hO.2.1 hd (hL.at hl) (kk hO ad H locs lsA hP hD hS hA hL r hr)
theorem XE_astore_n {α R : Type} {B : XB} {M : XM} {Q : R → State → Prop} {pc n : Nat} {ls : XLs} {st : List Value} {cs : Nat × Nat} {shs : XSs} {hs : List Mem} {k : α → Option R} {o : Option α} {f : Fin 4} {i : Nat} {x : Nat} (hd : decode M.2.1 pc = .ok (.astore_n f, 1)) (hn : pc + 1 = n) (hf : (f : Nat) = i) (hb : i < M.2.2.1) (hq : x_nl ls i = true) (kk : XE B M Q n ((i, some (.ref x)) :: ls) (st) cs shs hs k o) : XE B M Q pc ls (.ref x :: st) cs shs hs k o := by
  subst hn
  obtain ⟨p, l, e, Rm, s, m, args, below, meth, c, D, cc, A, H0, ad0, shs0⟩ := B
  intro hO ad H locs lsA hP hD hS hA hL r hr
  obtain ⟨l0, hl1, hl2⟩ := hL
  exact lv_astore_n hO.1 hO.2.1 hd hf hl1 hb rfl (fun ls' hl' => kk hO ad H locs ls' hP hD hS hA (x_ls.put (ls := ls) (v := .ref x) hl2 hq hl') r hr)
theorem XE_astore {α R : Type} {B : XB} {M : XM} {Q : R → State → Prop} {pc n : Nat} {ls : XLs} {st : List Value} {cs : Nat × Nat} {shs : XSs} {hs : List Mem} {k : α → Option R} {o : Option α} {i : Nat} {x : Nat} (hd : decode M.2.1 pc = .ok (.astore i, 2)) (hn : pc + 2 = n) (hb : i < M.2.2.1) (hq : x_nl ls i = true) (kk : XE B M Q n ((i, some (.ref x)) :: ls) (st) cs shs hs k o) : XE B M Q pc ls (.ref x :: st) cs shs hs k o := by
  subst hn
  obtain ⟨p, l, e, Rm, s, m, args, below, meth, c, D, cc, A, H0, ad0, shs0⟩ := B
  intro hO ad H locs lsA hP hD hS hA hL r hr
  obtain ⟨l0, hl1, hl2⟩ := hL
  exact lv_astore hO.1 hO.2.1 hd hl1 hb rfl (fun ls' hl' => kk hO ad H locs ls' hP hD hS hA (x_ls.put (ls := ls) (v := .ref x) hl2 hq hl') r hr)
theorem XE_iinc {α R : Type} {B : XB} {M : XM} {Q : R → State → Prop} {pc n : Nat} {ls : XLs} {st : List Value} {cs : Nat × Nat} {shs : XSs} {hs : List Mem} {k : α → Option R} {o : Option α} {i : Nat} {z : Int} {x v : Int32} (hd : decode M.2.1 pc = .ok (.iinc i z, 3)) (hn : pc + 3 = n) (hl : xlk ls i = some (.int x)) (hv : x + Int32.ofInt z = v) (hb : i < M.2.2.1) (hq : x_nl ls i = true) (kk : XE B M Q n ((i, some (.int v)) :: ls) (st) cs shs hs k o) : XE B M Q pc ls (st) cs shs hs k o := by
  subst hn
  obtain ⟨p, l, e, Rm, s, m, args, below, meth, c, D, cc, A, H0, ad0, shs0⟩ := B
  intro hO ad H locs lsA hP hD hS hA hL r hr
  obtain ⟨l0, hl1, hl2⟩ := hL
  obtain ⟨j, hj⟩ := List.getElem?_of_mem (hl2 _ _ hl)
  exact lv_iinc hO.1 hO.2.1 hd hl1 hj hv hb rfl (fun ls' hl' => kk hO ad H locs ls' hP hD hS hA (x_ls.put (ls := ls) (v := .int v) hl2 hq hl') r hr)
theorem XE_ls {α R : Type} {B : XB} {M : XM} {Q : R → State → Prop} {pc n : Nat} {ls : XLs} {st : List Value} {cs : Nat × Nat} {shs : XSs} {hs : List Mem} {k : α → Option R} {o : Option α} {ls' : XLs} (h : ∀ i v, xlk ls' i = some v → xlk ls i = some v) (kk : XE B M Q pc ls' (st) cs shs hs k o) : XE B M Q pc ls (st) cs shs hs k o := by
  obtain ⟨p, l, e, Rm, s, m, args, below, meth, c, D, cc, A, H0, ad0, shs0⟩ := B
  intro hO ad H locs lsA hP hD hS hA hL r hr
  obtain ⟨l0, hl1, hl2⟩ := hL
  exact kk hO ad H locs lsA hP hD hS hA ⟨l0, hl1, fun i v hi => hl2 i v (h i v hi)⟩ r hr
/-- fewer locals: each of the new list is in the old one -/
def x_sub (ls : XLs) : XLs → Prop
  | [] => True
  | q :: r => (match q.2 with
    | none => True
    | some v => xlk ls q.1 = some v) ∧ x_sub ls r
theorem x_sub_ok {ls : XLs} : ∀ {ls' : XLs}, x_sub ls ls' → ∀ i v, xlk ls' i = some v → xlk ls i = some v
  | [], _, i, v, h => by cases h
  | q :: r, hs, i, v, h => by
    unfold xlk at h
    by_cases e : q.1 = i
    · rw [if_pos e] at h
      have h1 := hs.1
      rw [h] at h1
      rw [← e]; exact h1
    · rw [if_neg e] at h
      exact x_sub_ok hs.2 i v h
theorem XE_if_eq {α R : Type} {B : XB} {M : XM} {Q : R → State → Prop} {pc n : Nat} {ls : XLs} {st : List Value} {cs : Nat × Nat} {shs : XSs} {hs : List Mem} {k : α → Option R} {o : Option α} {t : Nat} {off : Int} {x : Int32} {o1 o2 : Option α} [inst : Decidable (x = 0)] (hd : decode M.2.1 pc = .ok (.ifCond .eq off, 3)) (hn : pc + 3 = n) (ht : (pc : Int) + off = (t : Int)) (kt : x = 0 → XE B M Q t ls (st) cs shs hs k o1) (kf : ¬ x = 0 → XE B M Q n ls (st) cs shs hs k o2) : XE B M Q pc ls (.int x :: st) cs shs hs k (if x = 0 then o1 else o2) := by
  subst hn
  obtain ⟨p, l, e, Rm, s, m, args, below, meth, c, D, cc, A, H0, ad0, shs0⟩ := B
  intro hO ad H locs lsA hP hD hS hA hL r hr
  exact lv_if_eq hO.1 hO.2.1 hd ht (fun h => kt h hO ad H locs lsA hP hD hS hA hL r (by rw [if_pos h] at hr; exact hr)) (fun h => kf h hO ad H locs lsA hP hD hS hA hL r (by rw [if_neg h] at hr; exact hr))
theorem XE_if_eq_T {α R : Type} {B : XB} {M : XM} {Q : R → State → Prop} {pc n : Nat} {ls : XLs} {st : List Value} {cs : Nat × Nat} {shs : XSs} {hs : List Mem} {k : α → Option R} {o : Option α} {t : Nat} {off : Int} {x : Int32} (hd : decode M.2.1 pc = .ok (.ifCond .eq off, 3)) (ht : (pc : Int) + off = (t : Int)) (hc : (x = 0)) (kk : XE B M Q t ls (st) cs shs hs k o) : XE B M Q pc ls (.int x :: st) cs shs hs k o := by
  obtain ⟨p, l, e, Rm, s, m, args, below, meth, c, D, cc, A, H0, ad0, shs0⟩ := B
  intro hO ad H locs lsA hP hD hS hA hL r hr
  exact lv_if_eq hO.1 hO.2.1 hd ht (fun _ => kk hO ad H locs lsA hP hD hS hA hL r hr) (fun h => absurd hc h)
theorem XE_if_eq_F {α R : Type} {B : XB} {M : XM} {Q : R → State → Prop} {pc n : Nat} {ls : XLs} {st : List Value} {cs : Nat × Nat} {shs : XSs} {hs : List Mem} {k : α → Option R} {o : Option α} {t : Nat} {off : Int} {x : Int32} (hd : decode M.2.1 pc = .ok (.ifCond .eq off, 3)) (hn : pc + 3 = n) (ht : (pc : Int) + off = (t : Int)) (hc : ¬ (x = 0)) (kk : XE B M Q n ls (st) cs shs hs k o) : XE B M Q pc ls (.int x :: st) cs shs hs k o := by
  subst hn
  obtain ⟨p, l, e, Rm, s, m, args, below, meth, c, D, cc, A, H0, ad0, shs0⟩ := B
  intro hO ad H locs lsA hP hD hS hA hL r hr
  exact lv_if_eq hO.1 hO.2.1 hd ht (fun h => absurd h hc) (fun _ => kk hO ad H locs lsA hP hD hS hA hL r hr)
theorem XE_icmp_eq {α R : Type} {B : XB} {M : XM} {Q : R → State → Prop} {pc n : Nat} {ls : XLs} {st : List Value} {cs : Nat × Nat} {shs : XSs} {hs : List Mem} {k : α → Option R} {o : Option α} {t : Nat} {off : Int} {x y : Int32} {o1 o2 : Option α} [inst : Decidable (x = y)] (hd : decode M.2.1 pc = .ok (.if_icmp .eq off, 3)) (hn : pc + 3 = n) (ht : (pc : Int) + off = (t : Int)) (kt : x = y → XE B M Q t ls (st) cs shs hs k o1) (kf : ¬ x = y → XE B M Q n ls (st) cs shs hs k o2) : XE B M Q pc ls (.int y :: .int x :: st) cs shs hs k (if x = y then o1 else o2) := by
  subst hn
  obtain ⟨p, l, e, Rm, s, m, args, below, meth, c, D, cc, A, H0, ad0, shs0⟩ := B
  intro hO ad H locs lsA hP hD hS hA hL r hr
  exact lv_icmp_eq hO.1 hO.2.1 hd ht (fun h => kt h hO ad H locs lsA hP hD hS hA hL r (by rw [if_pos h] at hr; exact hr)) (fun h => kf h hO ad H locs lsA hP hD hS hA hL r (by rw [if_neg h] at hr; exact hr))
theorem XE_icmp_eq_T {α R : Type} {B : XB} {M : XM} {Q : R → State → Prop} {pc n : Nat} {ls : XLs} {st : List Value} {cs : Nat × Nat} {shs : XSs} {hs : List Mem} {k : α → Option R} {o : Option α} {t : Nat} {off : Int} {x y : Int32} (hd : decode M.2.1 pc = .ok (.if_icmp .eq off, 3)) (ht : (pc : Int) + off = (t : Int)) (hc : (x = y)) (kk : XE B M Q t ls (st) cs shs hs k o) : XE B M Q pc ls (.int y :: .int x :: st) cs shs hs k o := by
  obtain ⟨p, l, e, Rm, s, m, args, below, meth, c, D, cc, A, H0, ad0, shs0⟩ := B
  intro hO ad H locs lsA hP hD hS hA hL r hr
  exact lv_icmp_eq hO.1 hO.2.1 hd ht (fun _ => kk hO ad H locs lsA hP hD hS hA hL r hr) (fun h => absurd hc h)
theorem XE_icmp_eq_F {α R : Type} {B : XB} {M : XM} {Q : R → State → Prop} {pc n : Nat} {ls : XLs} {st : List Value} {cs : Nat × Nat} {shs : XSs} {hs : List Mem} {k : α → Option R} {o : Option α} {t : Nat} {off : Int} {x y : Int32} (hd : decode M.2.1 pc = .ok (.if_icmp .eq off, 3)) (hn : pc + 3 = n) (ht : (pc : Int) + off = (t : Int)) (hc : ¬ (x = y)) (kk : XE B M Q n ls (st) cs shs hs k o) : XE B M Q pc ls (.int y :: .int x :: st) cs shs hs k o := by
  subst hn
  obtain ⟨p, l, e, Rm, s, m, args, below, meth, c, D, cc, A, H0, ad0, shs0⟩ := B
  intro hO ad H locs lsA hP hD hS hA hL r hr
  exact lv_icmp_eq hO.1 hO.2.1 hd ht (fun h => absurd h hc) (fun _ => kk hO ad H locs lsA hP hD hS hA hL r hr)
theorem XE_if_ne {α R : Type} {B : XB} {M : XM} {Q : R → State → Prop} {pc n : Nat} {ls : XLs} {st : List Value} {cs : Nat × Nat} {shs : XSs} {hs : List Mem} {k : α → Option R} {o : Option α} {t : Nat} {off : Int} {x : Int32} {o1 o2 : Option α} [inst : Decidable (x = 0)] (hd : decode M.2.1 pc = .ok (.ifCond .ne off, 3)) (hn : pc + 3 = n) (ht : (pc : Int) + off = (t : Int)) (kt : x = 0 → XE B M Q n ls (st) cs shs hs k o1) (kf : ¬ x = 0 → XE B M Q t ls (st) cs shs hs k o2) : XE B M Q pc ls (.int x :: st) cs shs hs k (if x = 0 then o1 else o2) := by
  subst hn
  obtain ⟨p, l, e, Rm, s, m, args, below, meth, c, D, cc, A, H0, ad0, shs0⟩ := B
  intro hO ad H locs lsA hP hD hS hA hL r hr
  exact lv_if_ne hO.1 hO.2.1 hd ht (fun h => kf h hO ad H locs lsA hP hD hS hA hL r (by rw [if_neg h] at hr; exact hr)) (fun h => kt h hO ad H locs lsA hP hD hS hA hL r (by rw [if_pos h] at hr; exact hr))
theorem XE_if_ne_T {α R : Type} {B : XB} {M : XM} {Q : R → State → Prop} {pc n : Nat} {ls : XLs} {st : List Value} {cs : Nat × Nat} {shs : XSs} {hs : List Mem} {k : α → Option R} {o : Option α} {t : Nat} {off : Int} {x : Int32} (hd : decode M.2.1 pc = .ok (.ifCond .ne off, 3)) (ht : (pc : Int) + off = (t : Int)) (hc : ¬ (x = 0)) (kk : XE B M Q t ls (st) cs shs hs k o) : XE B M Q pc ls (.int x :: st) cs shs hs k o := by
  obtain ⟨p, l, e, Rm, s, m, args, below, meth, c, D, cc, A, H0, ad0, shs0⟩ := B
  intro hO ad H locs lsA hP hD hS hA hL r hr
  exact lv_if_ne hO.1 hO.2.1 hd ht (fun _ => kk hO ad H locs lsA hP hD hS hA hL r hr) (fun h => absurd h hc)
theorem XE_if_ne_F {α R : Type} {B : XB} {M : XM} {Q : R → State → Prop} {pc n : Nat} {ls : XLs} {st : List Value} {cs : Nat × Nat} {shs : XSs} {hs : List Mem} {k : α → Option R} {o : Option α} {t : Nat} {off : Int} {x : Int32} (hd : decode M.2.1 pc = .ok (.ifCond .ne off, 3)) (hn : pc + 3 = n) (ht : (pc : Int) + off = (t : Int)) (hc : (x = 0)) (kk : XE B M Q n ls (st) cs shs hs k o) : XE B M Q pc ls (.int x :: st) cs shs hs k o := by
  subst hn
  obtain ⟨p, l, e, Rm, s, m, args, below, meth, c, D, cc, A, H0, ad0, shs0⟩ := B
  intro hO ad H locs lsA hP hD hS hA hL r hr
  exact lv_if_ne hO.1 hO.2.1 hd ht (fun h => absurd hc h) (fun _ => kk hO ad H locs lsA hP hD hS hA hL r hr)
theorem XE_icmp_ne {α R : Type} {B : XB} {M : XM} {Q : R → State → Prop} {pc n : Nat} {ls : XLs} {st : List Value} {cs : Nat × Nat} {shs : XSs} {hs : List Mem} {k : α → Option R} {o : Option α} {t : Nat} {off : Int} {x y : Int32} {o1 o2 : Option α} [inst : Decidable (x = y)] (hd : decode M.2.1 pc = .ok (.if_icmp .ne off, 3)) (hn : pc + 3 = n) (ht : (pc : Int) + off = (t : Int)) (kt : x = y → XE B M Q n ls (st) cs shs hs k o1) (kf : ¬ x = y → XE B M Q t ls (st) cs shs hs k o2) : XE B M Q pc ls (.int y :: .int x :: st) cs shs hs k (if x = y then o1 else o2) := by
  subst hn
  obtain ⟨p, l, e, Rm, s, m, args, below, meth, c, D, cc, A, H0, ad0, shs0⟩ := B
  intro hO ad H locs lsA hP hD hS hA hL r hr
  exact lv_icmp_ne hO.1 hO.2.1 hd ht (fun h => kf h hO ad H locs lsA hP hD hS hA hL r (by rw [if_neg h] at hr; exact hr)) (fun h => kt h hO ad H locs lsA hP hD hS hA hL r (by rw [if_pos h] at hr; exact hr))
theorem XE_icmp_ne_T {α R : Type} {B : XB} {M : XM} {Q : R → State → Prop} {pc n : Nat} {ls : XLs} {st : List Value} {cs : Nat × Nat} {shs : XSs} {hs : List Mem} {k : α → Option R} {o : Option α} {t : Nat} {off : Int} {x y : Int32} (hd : decode M.2.1 pc = .ok (.if_icmp .ne off, 3)) (ht : (pc : Int) + off = (t : Int)) (hc : ¬ (x = y)) (kk : XE B M Q t ls (st) cs shs hs k o) : XE B M Q pc ls (.int y :: .int x :: st) cs shs hs k o := by
  obtain ⟨p, l, e, Rm, s, m, args, below, meth, c, D, cc, A, H0, ad0, shs0⟩ := B
  intro hO ad H locs lsA hP hD hS hA hL r hr
  exact lv_icmp_ne hO.1 hO.2.1 hd ht (fun _ => kk hO ad H locs lsA hP hD hS hA hL r hr) (fun h => absurd h hc)
theorem XE_icmp_ne_F {α R : Type} {B : XB} {M : XM} {Q : R → State → Prop} {pc n : Nat} {ls : XLs} {st : List Value} {cs : Nat × Nat} {shs : XSs} {hs : List Mem} {k : α → Option R} {o : Option α} {t : Nat} {off : Int} {x y : Int32} (hd : decode M.2.1 pc = .ok (.if_icmp .ne off, 3)) (hn : pc + 3 = n) (ht : (pc : Int) + off = (t : Int)) (hc : (x = y)) (kk : XE B M Q n ls (st) cs shs hs k o) : XE B M Q pc ls (.int y :: .int x :: st) cs shs hs k o := by
  subst hn
  obtain ⟨p, l, e, Rm, s, m, args, below, meth, c, D, cc, A, H0, ad0, shs0⟩ := B
  intro hO ad H locs lsA hP hD hS hA hL r hr
  exact lv_icmp_ne hO.1 hO.2.1 hd ht (fun h => absurd hc h) (fun _ => kk hO ad H locs lsA hP hD hS hA hL r hr)
theorem XE_if_lt {α R : Type} {B : XB} {M : XM} {Q : R → State → Prop} {pc n : Nat} {ls : XLs} {st : List Value} {cs : Nat × Nat} {shs : XSs} {hs : List Mem} {k : α → Option R} {o : Option α} {t : Nat} {off : Int} {x : Int32} {o1 o2 : Option α} [inst : Decidable (x < 0)] (hd : decode M.2.1 pc = .ok (.ifCond .lt off, 3)) (hn : pc + 3 = n) (ht : (pc : Int) + off = (t : Int)) (kt : x < 0 → XE B M Q t ls (st) cs shs hs k o1) (kf : ¬ x < 0 → XE B M Q n ls (st) cs shs hs k o2) : XE B M Q pc ls (.int x :: st) cs shs hs k (if x < 0 then o1 else o2) := by
  subst hn
  obtain ⟨p, l, e, Rm, s, m, args, below, meth, c, D, cc, A, H0, ad0, shs0⟩ := B
  intro hO ad H locs lsA hP hD hS hA hL r hr
  exact lv_if_lt hO.1 hO.2.1 hd ht (fun h => kt h hO ad H locs lsA hP hD hS hA hL r (by rw [if_pos h] at hr; exact hr)) (fun h => kf h hO ad H locs lsA hP hD hS hA hL r (by rw [if_neg h] at hr; exact hr))
theorem XE_if_lt_T {α R : Type} {B : XB} {M : XM} {Q : R → State → Prop} {pc n : Nat} {ls : XLs} {st : List Value} {cs : Nat × Nat} {shs : XSs} {hs : List Mem} {k : α → Option R} {o : Option α} {t : Nat} {off : Int} {x : Int32} (hd : decode M.2.1 pc = .ok (.ifCond .lt off, 3)) (ht : (pc : Int) + off = (t : Int)) (hc : (x < 0)) (kk : XE B M Q t ls (st) cs shs hs k o) : XE B M Q pc ls (.int x :: st) cs shs hs k o := by
  obtain ⟨p, l, e, Rm, s, m, args, below, meth, c, D, cc, A, H0, ad0, shs0⟩ := B
  intro hO ad H locs lsA hP hD hS hA hL r hr
  exact lv_if_lt hO.1 hO.2.1 hd ht (fun _ => kk hO ad H locs lsA hP hD hS hA hL r hr) (fun h => absurd hc h)
theorem XE_if_lt_F {α R : Type} {B : XB} {M : XM} {Q : R → State → Prop} {pc n : Nat} {ls : XLs} {st : List Value} {cs : Nat × Nat} {shs : XSs} {hs : List Mem} {k : α → Option R} {o : Option α} {t : Nat} {off : Int} {x : Int32} (hd : decode M.2.1 pc = .ok (.ifCond .lt off, 3)) (hn : pc + 3 = n) (ht : (pc : Int) + off = (t : Int)) (hc : ¬ (x < 0)) (kk : XE B M Q n ls (st) cs shs hs k o) : XE B M Q pc ls (.int x :: st) cs shs hs k o := by
  subst hn
  obtain ⟨p, l, e, Rm, s, m, args, below, meth, c, D, cc, A, H0, ad0, shs0⟩ := B
  intro hO ad H locs lsA hP hD hS hA hL r hr
  exact lv_if_lt hO.1 hO.2.1 hd ht (fun h => absurd h hc) (fun _ => kk hO ad H locs lsA hP hD hS hA hL r hr)
theorem XE_icmp_lt {α R : Type} {B : XB} {M : XM} {Q : R → State → Prop} {pc n : Nat} {ls : XLs} {st : List Value} {cs : Nat × Nat} {shs : XSs} {hs : List Mem} {k : α → Option R} {o : Option α} {t : Nat} {off : Int} {x y : Int32} {o1 o2 : Option α} [inst : Decidable (x < y)] (hd : decode M.2.1 pc = .ok (.if_icmp .lt off, 3)) (hn : pc + 3 = n) (ht : (pc : Int) + off = (t : Int)) (kt : x < y → XE B M Q t ls (st) cs shs hs k o1) (kf : ¬ x < y → XE B M Q n ls (st) cs shs hs k o2) : XE B M Q pc ls (.int y :: .int x :: st) cs shs hs k (if x < y then o1 else o2) := by
  subst hn
  obtain ⟨p, l, e, Rm, s, m, args, below, meth, c, D, cc, A, H0, ad0, shs0⟩ := B
  intro hO ad H locs lsA hP hD hS hA hL r hr
  exact lv_icmp_lt hO.1 hO.2.1 hd ht (fun h => kt h hO ad H locs lsA hP hD hS hA hL r (by rw [if_pos h] at hr; exact hr)) (fun h => kf h hO ad H locs lsA hP hD hS hA hL r (by rw [if_neg h] at hr; exact hr))
theorem XE_icmp_lt_T {α R : Type} {B : XB} {M : XM} {Q : R → State → Prop} {pc n : Nat} {ls : XLs} {st : List Value} {cs : Nat × Nat} {shs : XSs} {hs : List Mem} {k : α → Option R} {o : Option α} {t : Nat} {off : Int} {x y : Int32} (hd : decode M.2.1 pc = .ok (.if_icmp .lt off, 3)) (ht : (pc : Int) + off = (t : Int)) (hc : (x < y)) (kk : XE B M Q t ls (st) cs shs hs k o) : XE B M Q pc ls (.int y :: .int x :: st) cs shs hs k o := by
  obtain ⟨p, l, e, Rm, s, m, args, below, meth, c, D, cc, A, H0, ad0, shs0⟩ := B
  intro hO ad H locs lsA hP hD hS hA hL r hr
  exact lv_icmp_lt hO.1 hO.2.1 hd ht (fun _ => kk hO ad H locs lsA hP hD hS hA hL r hr) (fun h => absurd hc h)
theorem XE_icmp_lt_F {α R : Type} {B : XB} {M : XM} {Q : R → State → Prop} {pc n : Nat} {ls : XLs} {st : List Value} {cs : Nat × Nat} {shs : XSs} {hs : List Mem} {k : α → Option R} {o : Option α} {t : Nat} {off : Int} {x y : Int32} (hd : decode M.2.1 pc = .ok (.if_icmp .lt off, 3)) (hn : pc + 3 = n) (ht : (pc : Int) + off = (t : Int)) (hc : ¬ (x < y)) (kk : XE B M Q n ls (st) cs shs hs k o) : XE B M Q pc ls (.int y :: .int x :: st) cs shs hs k o := by
  subst hn
  obtain ⟨p, l, e, Rm, s, m, args, below, meth, c, D, cc, A, H0, ad0, shs0⟩ := B
  intro hO ad H locs lsA hP hD hS hA hL r hr
  exact lv_icmp_lt hO.1 hO.2.1 hd ht (fun h => absurd h hc) (fun _ => kk hO ad H locs lsA hP hD hS hA hL r hr)
theorem XE_if_ge {α R : Type} {B : XB} {M : XM} {Q : R → State → Prop} {pc n : Nat} {ls : XLs} {st : List Value} {cs : Nat × Nat} {shs : XSs} {hs : List Mem} {k : α → Option R} {o : Option α} {t : Nat} {off : Int} {x : Int32} {o1 o2 : Option α} [inst : Decidable (0 ≤ x)] (hd : decode M.2.1 pc = .ok (.ifCond .ge off, 3)) (hn : pc + 3 = n) (ht : (pc : Int) + off = (t : Int)) (kt : 0 ≤ x → XE B M Q t ls (st) cs shs hs k o1) (kf : ¬ 0 ≤ x → XE B M Q n ls (st) cs shs hs k o2) : XE B M Q pc ls (.int x :: st) cs shs hs k (if 0 ≤ x then o1 else o2) := by
  subst hn
  obtain ⟨p, l, e, Rm, s, m, args, below, meth, c, D, cc, A, H0, ad0, shs0⟩ := B
  intro hO ad H locs lsA hP hD hS hA hL r hr
  exact lv_if_ge hO.1 hO.2.1 hd ht (fun h => kt h hO ad H locs lsA hP hD hS hA hL r (by rw [if_pos h] at hr; exact hr)) (fun h => kf h hO ad H locs lsA hP hD hS hA hL r (by rw [if_neg h] at hr; exact hr))
theorem XE_if_ge_T {α R : Type} {B : XB} {M : XM} {Q : R → State → Prop} {pc n : Nat} {ls : XLs} {st : List Value} {cs : Nat × Nat} {shs : XSs} {hs : List Mem} {k : α → Option R} {o : Option α} {t : Nat} {off : Int} {x : Int32} (hd : decode M.2.1 pc = .ok (.ifCond .ge off, 3)) (ht : (pc : Int) + off = (t : Int)) (hc : (0 ≤ x)) (kk : XE B M Q t ls (st) cs shs hs k o) : XE B M Q pc ls (.int x :: st) cs shs hs k o := by
  obtain ⟨p, l, e, Rm, s, m, args, below, meth, c, D, cc, A, H0, ad0, shs0⟩ := B
  intro hO ad H locs lsA hP hD hS hA hL r hr
  exact lv_if_ge hO.1 hO.2.1 hd ht (fun _ => kk hO ad H locs lsA hP hD hS hA hL r hr) (fun h => absurd hc h)
theorem XE_if_ge_F {α R : Type} {B : XB} {M : XM} {Q : R → State → Prop} {pc n : Nat} {ls : XLs} {st : List Value} {cs : Nat × Nat} {shs : XSs} {hs : List Mem} {k : α → Option R} {o : Option α} {t : Nat} {off : Int} {x : Int32} (hd : decode M.2.1 pc = .ok (.ifCond .ge off, 3)) (hn : pc + 3 = n) (ht : (pc : Int) + off = (t : Int)) (hc : ¬ (0 ≤ x)) (kk : XE B M Q n ls (st) cs shs hs k o) : XE B M Q pc ls (.int x :: st) cs shs hs k o := by
  subst hn
  obtain ⟨p, l, e, Rm, s, m, args, below, meth, c, D, cc, A, H0, ad0, shs0⟩ := B
  intro hO ad H locs lsA hP hD hS hA hL r hr
  exact lv_if_ge hO.1 hO.2.1 hd ht (fun h => absurd h hc) (fun _ => kk hO ad H locs lsA hP hD hS hA hL r hr)
theorem XE_icmp_ge {α R : Type} {B : XB} {M : XM} {Q : R → State → Prop} {pc n : Nat} {ls : XLs} {st : List Value} {cs : Nat × Nat} {shs : XSs} {hs : List Mem} {k : α → Option R} {o : Option α} {t : Nat} {off : Int} {x y : Int32} {o1 o2 : Option α} [inst : Decidable (y ≤ x)] (hd : decode M.2.1 pc = .ok (.if_icmp .ge off, 3)) (hn : pc + 3 = n) (ht : (pc : Int) + off = (t : Int)) (kt : y ≤ x → XE B M Q t ls (st) cs shs hs k o1) (kf : ¬ y ≤ x → XE B M Q n ls (st) cs shs hs k o2) : XE B M Q pc ls (.int y :: .int x :: st) cs shs hs k (if y ≤ x then o1 else o2) := by
  subst hn
  obtain ⟨p, l, e, Rm, s, m, args, below, meth, c, D, cc, A, H0, ad0, shs0⟩ := B
  intro hO ad H locs lsA hP hD hS hA hL r hr
  exact lv_icmp_ge hO.1 hO.2.1 hd ht (fun h => kt h hO ad H locs lsA hP hD hS hA hL r (by rw [if_pos h] at hr; exact hr)) (fun h => kf h hO ad H locs lsA hP hD hS hA hL r (by rw [if_neg h] at hr; exact hr))
theorem XE_icmp_ge_T {α R : Type} {B : XB} {M : XM} {Q : R → State → Prop} {pc n : Nat} {ls : XLs} {st : List Value} {cs : Nat × Nat} {shs : XSs} {hs : List Mem} {k : α → Option R} {o : Option α} {t : Nat} {off : Int} {x y : Int32} (hd : decode M.2.1 pc = .ok (.if_icmp .ge off, 3)) (ht : (pc : Int) + off = (t : Int)) (hc : (y ≤ x)) (kk : XE B M Q t ls (st) cs shs hs k o) : XE B M Q pc ls (.int y :: .int x :: st) cs shs hs k o := by
  obtain ⟨p, l, e, Rm, s, m, args, below, meth, c, D, cc, A, H0, ad0, shs0⟩ := B
  intro hO ad H locs lsA hP hD hS hA hL r hr
  exact lv_icmp_ge hO.1 hO.2.1 hd ht (fun _ => kk hO ad H locs lsA hP hD hS hA hL r hr) (fun h => absurd hc h)
theorem XE_icmp_ge_F {α R : Type} {B : XB} {M : XM} {Q : R → State → Prop} {pc n : Nat} {ls : XLs} {st : List Value} {cs : Nat × Nat} {shs : XSs} {hs : List Mem} {k : α → Option R} {o : Option α} {t : Nat} {off : Int} {x y : Int32} (hd : decode M.2.1 pc = .ok (.if_icmp .ge off, 3)) (hn : pc + 3 = n) (ht : (pc : Int) + off = (t : Int)) (hc : ¬ (y ≤ x)) (kk : XE B M Q n ls (st) cs shs hs k o) : XE B M Q pc ls (.int y :: .int x :: st) cs shs hs k o := by
  subst hn
  obtain ⟨p, l, e, Rm, s, m, args, below, meth, c, D, cc, A, H0, ad0, shs0⟩ := B
  intro hO ad H locs lsA hP hD hS hA hL r hr
  exact lv_icmp_ge hO.1 hO.2.1 hd ht (fun h => absurd h hc) (fun _ => kk hO ad H locs lsA hP hD hS hA hL r hr)
theorem XE_if_gt {α R : Type} {B : XB} {M : XM} {Q : R → State → Prop} {pc n : Nat} {ls : XLs} {st : List Value} {cs : Nat × Nat} {shs : XSs} {hs : List Mem} {k : α → Option R} {o : Option α} {t : Nat} {off : Int} {x : Int32} {o1 o2 : Option α} [inst : Decidable (0 < x)] (hd : decode M.2.1 pc = .ok (.ifCond .gt off, 3)) (hn : pc + 3 = n) (ht : (pc : Int) + off = (t : Int)) (kt : 0 < x → XE B M Q t ls (st) cs shs hs k o1) (kf : ¬ 0 < x → XE B M Q n ls (st) cs shs hs k o2) : XE B M Q pc ls (.int x :: st) cs shs hs k (if 0 < x then o1 else o2) := by
  subst hn
  obtain ⟨p, l, e, Rm, s, m, args, below, meth, c, D, cc, A, H0, ad0, shs0⟩ := B
  intro hO ad H locs lsA hP hD hS hA hL r hr
  exact lv_if_gt hO.1 hO.2.1 hd ht (fun h => kt h hO ad H locs lsA hP hD hS hA hL r (by rw [if_pos h] at hr; exact hr)) (fun h => kf h hO ad H locs lsA hP hD hS hA hL r (by rw [if_neg h] at hr; exact hr))
theorem XE_if_gt_T {α R : Type} {B : XB} {M : XM} {Q : R → State → Prop} {pc n : Nat} {ls : XLs} {st : List Value} {cs : Nat × Nat} {shs : XSs} {hs : List Mem} {k : α → Option R} {o : Option α} {t : Nat} {off : Int} {x : Int32} (hd : decode M.2.1 pc = .ok (.ifCond .gt off, 3)) (ht : (pc : Int) + off = (t : Int)) (hc : (0 < x)) (kk : XE B M Q t ls (st) cs shs hs k o) : XE B M Q pc ls (.int x :: st) cs shs hs k o := by
  obtain ⟨p, l, e, Rm, s, m, args, below, meth, c, D, cc, A, H0, ad0, shs0⟩ := B
  intro hO ad H locs lsA hP hD hS hA hL r hr
  exact lv_if_gt hO.1 hO.2.1 hd ht (fun _ => kk hO ad H locs lsA hP hD hS hA hL r hr) (fun h => absurd hc h)
theorem XE_if_gt_F {α R : Type} {B : XB} {M : XM} {Q : R → State → Prop} {pc n : Nat} {ls : XLs} {st : List Value} {cs : Nat × Nat} {shs : XSs} {hs : List Mem} {k : α → Option R} {o : Option α} {t : Nat} {off : Int} {x : Int32} (hd : decode M.2.1 pc = .ok (.ifCond .gt off, 3)) (hn : pc + 3 = n) (ht : (pc : Int) + off = (t : Int)) (hc : ¬ (0 < x)) (kk : XE B M Q n ls (st) cs shs hs k o) : XE B M Q pc ls (.int x :: st) cs shs hs k o := by
  subst hn
  obtain ⟨p, l, e, Rm, s, m, args, below, meth, c, D, cc, A, H0, ad0, shs0⟩ := B
  intro hO ad H locs lsA hP hD hS hA hL r hr
  exact lv_if_gt hO.1 hO.2.1 hd ht (fun h => absurd h hc) (fun _ => kk hO ad H locs lsA hP hD hS hA hL r hr)
theorem XE_icmp_gt {α R : Type} {B : XB} {M : XM} {Q : R → State → Prop} {pc n : Nat} {ls : XLs} {st : List Value} {cs : Nat × Nat} {shs : XSs} {hs : List Mem} {k : α → Option R} {o : Option α} {t : Nat} {off : Int} {x y : Int32} {o1 o2 : Option α} [inst : Decidable (y < x)] (hd : decode M.2.1 pc = .ok (.if_icmp .gt off, 3)) (hn : pc + 3 = n) (ht : (pc : Int) + off = (t : Int)) (kt : y < x → XE B M Q t ls (st) cs shs hs k o1) (kf : ¬ y < x → XE B M Q n ls (st) cs shs hs k o2) : XE B M Q pc ls (.int y :: .int x :: st) cs shs hs k (if y < x then o1 else o2) := by
  subst hn
  obtain ⟨p, l, e, Rm, s, m, args, below, meth, c, D, cc, A, H0, ad0, shs0⟩ := B
  intro hO ad H locs lsA hP hD hS hA hL r hr
  exact lv_icmp_gt hO.1 hO.2.1 hd ht (fun h => kt h hO ad H locs lsA hP hD hS hA hL r (by rw [if_pos h] at hr; exact hr)) (fun h => kf h hO ad H locs lsA hP hD hS hA hL r (by rw [if_neg h] at hr; exact hr))
theorem XE_icmp_gt_T {α R : Type} {B : XB} {M : XM} {Q : R → State → Prop} {pc n : Nat} {ls : XLs} {st : List Value} {cs : Nat × Nat} {shs : XSs} {hs : List Mem} {k : α → Option R} {o : Option α} {t : Nat} {off : Int} {x y : Int32} (hd : decode M.2.1 pc = .ok (.if_icmp .gt off, 3)) (ht : (pc : Int) + off = (t : Int)) (hc : (y < x)) (kk : XE B M Q t ls (st) cs shs hs k o) : XE B M Q pc ls (.int y :: .int x :: st) cs shs hs k o := by
  obtain ⟨p, l, e, Rm, s, m, args, below, meth, c, D, cc, A, H0, ad0, shs0⟩ := B
  intro hO ad H locs lsA hP hD hS hA hL r hr
  exact lv_icmp_gt hO.1 hO.2.1 hd ht (fun _ => kk hO ad H locs lsA hP hD hS hA hL r hr) (fun h => absurd hc h)
theorem XE_icmp_gt_F {α R : Type} {B : XB} {M : XM} {Q : R → State → Prop} {pc n : Nat} {ls : XLs} {st : List Value} {cs : Nat × Nat} {shs : XSs} {hs : List Mem} {k : α → Option R} {o : Option α} {t : Nat} {off : Int} {x y : Int32} (hd : decode M.2.1 pc = .ok (.if_icmp .gt off, 3)) (hn : pc + 3 = n) (ht : (pc : Int) + off = (t : Int)) (hc : ¬ (y < x)) (kk : XE B M Q n ls (st) cs shs hs k o) : XE B M Q pc ls (.int y :: .int x :: st) cs shs hs k o := by
  subst hn
  obtain ⟨p, l, e, Rm, s, m, args, below, meth, c, D, cc, A, H0, ad0, shs0⟩ := B
  intro hO ad H locs lsA hP hD hS hA hL r hr
  exact lv_icmp_gt hO.1 hO.2.1 hd ht (fun h => absurd h hc) (fun _ => kk hO ad H locs lsA hP hD hS hA hL r hr)
theorem XE_if_le {α R : Type} {B : XB} {M : XM} {Q : R → State → Prop} {pc n : Nat} {ls : XLs} {st : List Value} {cs : Nat × Nat} {shs : XSs} {hs : List Mem} {k : α → Option R} {o : Option α} {t : Nat} {off : Int} {x : Int32} {o1 o2 : Option α} [inst : Decidable (x ≤ 0)] (hd : decode M.2.1 pc = .ok (.ifCond .le off, 3)) (hn : pc + 3 = n) (ht : (pc : Int) + off = (t : Int)) (kt : x ≤ 0 → XE B M Q t ls (st) cs shs hs k o1) (kf : ¬ x ≤ 0 → XE B M Q n ls (st) cs shs hs k o2) : XE B M Q pc ls (.int x :: st) cs shs hs k (if x ≤ 0 then o1 else o2) := by
  subst hn
  obtain ⟨p, l, e, Rm, s, m, args, below, meth, c, D, cc, A, H0, ad0, shs0⟩ := B
  intro hO ad H locs lsA hP hD hS hA hL r hr
  exact lv_if_le hO.1 hO.2.1 hd ht (fun h => kt h hO ad H locs lsA hP hD hS hA hL r (by rw [if_pos h] at hr; exact hr)) (fun h => kf h hO ad H locs lsA hP hD hS hA hL r (by rw [if_neg h] at hr; exact hr))
theorem XE_if_le_T {α R : Type} {B : XB} {M : XM} {Q : R → State → Prop} {pc n : Nat} {ls : XLs} {st : List Value} {cs : Nat × Nat} {shs : XSs} {hs : List Mem} {k : α → Option R} {o : Option α} {t : Nat} {off : Int} {x : Int32} (hd : decode M.2.1 pc = .ok (.ifCond .le off, 3)) (ht : (pc : Int) + off = (t : Int)) (hc : (x ≤ 0)) (kk : XE B M Q t ls (st) cs shs hs k o) : XE B M Q pc ls (.int x :: st) cs shs hs k o := by
  obtain ⟨p, l, e, Rm, s, m, args, below, meth, c, D, cc, A, H0, ad0, shs0⟩ := B
  intro hO ad H locs lsA hP hD hS hA hL r hr
  exact lv_if_le hO.1 hO.2.1 hd ht (fun _ => kk hO ad H locs lsA hP hD hS hA hL r hr) (fun h => absurd hc h)
theorem XE_if_le_F {α R : Type} {B : XB} {M : XM} {Q : R → State → Prop} {pc n : Nat} {ls : XLs} {st : List Value} {cs : Nat × Nat} {shs : XSs} {hs : List Mem} {k : α → Option R} {o : Option α} {t : Nat} {off : Int} {x : Int32} (hd : decode M.2.1 pc = .ok (.ifCond .le off, 3)) (hn : pc + 3 = n) (ht : (pc : Int) + off = (t : Int)) (hc : ¬ (x ≤ 0)) (kk : XE B M Q n ls (st) cs shs hs k o) : XE B M Q pc ls (.int x :: st) cs shs hs k o := by
  subst hn
  obtain ⟨p, l, e, Rm, s, m, args, below, meth, c, D, cc, A, H0, ad0, shs0⟩ := B
  intro hO ad H locs lsA hP hD hS hA hL r hr
  exact lv_if_le hO.1 hO.2.1 hd ht (fun h => absurd h hc) (fun _ => kk hO ad H locs lsA hP hD hS hA hL r hr)
theorem XE_icmp_le {α R : Type} {B : XB} {M : XM} {Q : R → State → Prop} {pc n : Nat} {ls : XLs} {st : List Value} {cs : Nat × Nat} {shs : XSs} {hs : List Mem} {k : α → Option R} {o : Option α} {t : Nat} {off : Int} {x y : Int32} {o1 o2 : Option α} [inst : Decidable (x ≤ y)] (hd : decode M.2.1 pc = .ok (.if_icmp .le off, 3)) (hn : pc + 3 = n) (ht : (pc : Int) + off = (t : Int)) (kt : x ≤ y → XE B M Q t ls (st) cs shs hs k o1) (kf : ¬ x ≤ y → XE B M Q n ls (st) cs shs hs k o2) : XE B M Q pc ls (.int y :: .int x :: st) cs shs hs k (if x ≤ y then o1 else o2) := by
  subst hn
  obtain ⟨p, l, e, Rm, s, m, args, below, meth, c, D, cc, A, H0, ad0, shs0⟩ := B
  intro hO ad H locs lsA hP hD hS hA hL r hr
  exact lv_icmp_le hO.1 hO.2.1 hd ht (fun h => kt h hO ad H locs lsA hP hD hS hA hL r (by rw [if_pos h] at hr; exact hr)) (fun h => kf h hO ad H locs lsA hP hD hS hA hL r (by rw [if_neg h] at hr; exact hr))
theorem XE_icmp_le_T {α R : Type} {B : XB} {M : XM} {Q : R → State → Prop} {pc n : Nat} {ls : XLs} {st : List Value} {cs : Nat × Nat} {shs : XSs} {hs : List Mem} {k : α → Option R} {o : Option α} {t : Nat} {off : Int} {x y : Int32} (hd : decode M.2.1 pc = .ok (.if_icmp .le off, 3)) (ht : (pc : Int) + off = (t : Int)) (hc : (x ≤ y)) (kk : XE B M Q t ls (st) cs shs hs k o) : XE B M Q pc ls (.int y :: .int x :: st) cs shs hs k o := by
  obtain ⟨p, l, e, Rm, s, m, args, below, meth, c, D, cc, A, H0, ad0, shs0⟩ := B
  intro hO ad H locs lsA hP hD hS hA hL r hr
  exact lv_icmp_le hO.1 hO.2.1 hd ht (fun _ => kk hO ad H locs lsA hP hD hS hA hL r hr) (fun h => absurd hc h)
theorem XE_icmp_le_F {α R : Type} {B : XB} {M : XM} {Q : R → State → Prop} {pc n : Nat} {ls : XLs} {st : List Value} {cs : Nat × Nat} {shs : XSs} {hs : List Mem} {k : α → Option R} {o : Option α} {t : Nat} {off : Int} {x y : Int32} (hd : decode M.2.1 pc = .ok (.if_icmp .le off, 3)) (hn : pc + 3 = n) (ht : (pc : Int) + off = (t : Int)) (hc : ¬ (x ≤ y)) (kk : XE B M Q n ls (st) cs shs hs k o) : XE B M Q pc ls (.int y :: .int x :: st) cs shs hs k o := by
  subst hn
  obtain ⟨p, l, e, Rm, s, m, args, below, meth, c, D, cc, A, H0, ad0, shs0⟩ := B
  intro hO ad H locs lsA hP hD hS hA hL r hr
  exact lv_icmp_le hO.1 hO.2.1 hd ht (fun h => absurd h hc) (fun _ => kk hO ad H locs lsA hP hD hS hA hL r hr)
theorem XE_goto {α R : Type} {B : XB} {M : XM} {Q : R → State → Prop} {pc n : Nat} {ls : XLs} {st : List Value} {cs : Nat × Nat} {shs : XSs} {hs : List Mem} {k : α → Option R} {o : Option α} {off : Int} (hd : decode M.2.1 pc = .ok (.goto off, 3)) (ht : (pc : Int) + off = (n : Int)) (kk : XE B M Q n ls (st) cs shs hs k o) : XE B M Q pc ls (st) cs shs hs k o := by
  obtain ⟨p, l, e, Rm, s, m, args, below, meth, c, D, cc, A, H0, ad0, shs0⟩ := B
  intro hO ad H locs lsA hP hD hS hA hL r hr
  exact lv_goto hO.1 hO.2.1 hd ht (kk hO ad H locs lsA hP hD hS hA hL r hr)
end
section
/-! THE FRAME, second half: fields, arrays, calls, returns -/
theorem goodIn_tbl {ws : List Cond} (h : ∀ w ∈ ws, w ∈ xT) : GoodIn xT ws := fun w hw => ⟨h w hw, good_of_word (List.mem_filter.mp (h w hw)).2⟩
/-- entry idx of class own's pool is field j of class ci, of type ty, final or not, own's or not -/
def XF (own : String) (idx ci j : Nat) (ty : FieldType) (fin dec : Bool) : Prop := ∃ (C : String) (T : u_T) (N : Nat) (ty0 : Nat → FieldType), vwCl[ci]? = some (C, T, N) ∧ j < N ∧ Cond.fieldLink own idx (T j).1 (T j).2.1 (T j).2.2.1 ∈ xT ∧ (∀ w ∈ u_ws C T N, w ∈ xT) ∧ (∀ k, k < N → parseFieldDescriptor (T k).2.2.1 = some (ty0 k)) ∧ ty0 j = ty ∧ (∀ a, a < N → ∀ b, b < N → a ≠ b → (T a).2.1 ≠ (T b).2.1) ∧ (T j).2.2.2 = fin ∧ (dec = true → (T j).1 = own)
theorem x_fs_upd {ad : Nat → Nat} {g : Nat} {κs : List Nat} {j κ : Nat} (hκ : κs[j]? = some κ) (m m' : Nat → Int32) (h : ∀ q, q ≠ j → m' q = m q) : x_fs ad g κs m' 0 = (x_fs ad g κs m 0).set j (x_fv ad g κ (m' j)) := by
  have hl : j < (x_fs ad g κs m 0).length := by rw [x_fs_len]; exact (List.getElem?_eq_some_iff.mp hκ).1
  apply List.ext_getElem?
  intro n
  rw [x_fs_at, Nat.zero_add]
  by_cases e : n = j
  · subst e
    rw [List.getElem?_set_self hl, hκ]; rfl
  · rw [List.getElem?_set_ne (fun z => e z.symm), x_fs_at, Nat.zero_add, h n e]
theorem xs_row (m : Mem) (p j : Nat) (v : Int32) : xs m p j v p = fun q => if q = j then v else m p q := by
  funext q; simp [xs]
theorem xs_at (m : Mem) (p j : Nat) (v : Int32) : xs m p j v p j = v := by simp [xs]
theorem xs_ne (m : Mem) (p j : Nat) (v : Int32) (q : Nat) (h : q ≠ j) : xs m p j v p q = m p q := by simp [xs, h]
theorem xs_off (m : Mem) (p j : Nat) (v : Int32) (q : Nat) (h : q ≠ p) : xs m p j v q = m q := by
  funext i; simp [xs, h]
theorem XE_none {α R : Type} {B : XB} {M : XM} {Q : R → State → Prop} {pc : Nat} {ls : XLs} {st : List Value} {cs : Nat × Nat} {shs : XSs} {hs : List Mem} {k : α → Option R} : XE B M Q pc ls (st) cs shs hs k ((none : Option α)) := by
  obtain ⟨p, l, e, Rm, s, m, args, below, meth, c, D, cc, A, H0, ad0, shs0⟩ := B
  intro hO ad H locs lsA hP hD hS hA hL r hr
  cases hr
theorem XE_some {α R : Type} {B : XB} {M : XM} {Q : R → State → Prop} {pc : Nat} {ls : XLs} {st : List Value} {cs : Nat × Nat} {shs : XSs} {hs : List Mem} {k : α → Option R} {τ : Type} {f : τ → Option α} {t : τ} (kk : XE B M Q pc ls (st) cs shs hs k (f t)) : XE B M Q pc ls (st) cs shs hs k ((some t).bind f) := kk
theorem XE_lt {α R : Type} {B : XB} {M : XM} {Q : R → State → Prop} {pc : Nat} {ls : XLs} {st : List Value} {cs : Nat × Nat} {shs : XSs} {hs : List Mem} {k : α → Option R} {τ : Type} {f : τ → Option α} {t : τ} (kk : XE B M Q pc ls (st) cs shs hs k (f t)) : XE B M Q pc ls (st) cs shs hs k (lt t f) := kk
theorem XE_bind {α R : Type} {B : XB} {M : XM} {Q : R → State → Prop} {pc : Nat} {ls : XLs} {st : List Value} {cs : Nat × Nat} {shs : XSs} {hs : List Mem} {k : α → Option R} {τ : Type} {f : τ → Option α} {o1 : Option τ} (kk : XE B M Q pc ls st cs shs hs (fun t => (f t).bind k) o1) : XE B M Q pc ls (st) cs shs hs k (o1.bind f) := by
  obtain ⟨p, l, e, Rm, s, m, args, below, meth, c, D, cc, A, H0, ad0, shs0⟩ := B
  intro hO ad H locs lsA hP hD hS hA hL r hr
  exact kk hO ad H locs lsA hP hD hS hA hL r (by rw [← hr, Option.bind_assoc])
theorem XE_leaf {α R : Type} {B : XB} {M : XM} {Q : R → State → Prop} {pc : Nat} {ls : XLs} {st : List Value} {cs : Nat × Nat} {shs : XSs} {hs : List Mem} {k : α → Option R} {τ : Type} {f : τ → Option α} {t : τ} (kk : XE B M Q pc ls (st) cs shs hs k (f t)) : XE B M Q pc ls st cs shs hs (fun t => (f t).bind k) (some t) := kk
theorem XE_if {α R : Type} {B : XB} {M : XM} {Q : R → State → Prop} {pc : Nat} {ls : XLs} {st : List Value} {cs : Nat × Nat} {shs : XSs} {hs : List Mem} {k : α → Option R} {P : Prop} [inst : Decidable P] {o1 o2 : Option α} (h1 : P → XE B M Q pc ls (st) cs shs hs k (o1)) (h2 : ¬ P → XE B M Q pc ls (st) cs shs hs k (o2)) : XE B M Q pc ls (st) cs shs hs k (if P then o1 else o2) := by
  by_cases h : P
  · rw [if_pos h]; exact h1 h
  · rw [if_neg h]; exact h2 h
theorem XE_ck {α R : Type} {B : XB} {M : XM} {Q : R → State → Prop} {pc : Nat} {ls : XLs} {st : List Value} {cs : Nat × Nat} {shs : XSs} {hs : List Mem} {k : α → Option R} {o : Option α} {b : Bool} (kk : b = true → XE B M Q pc ls (st) cs shs hs k o) : XE B M Q pc ls (st) cs shs hs k (ck b o) := by
  unfold ck
  cases b
  · exact XE_none
  · exact kk rfl
theorem XE_getf {α R : Type} {B : XB} {M : XM} {Q : R → State → Prop} {pc n : Nat} {ls : XLs} {st : List Value} {cs : Nat × Nat} {shs : XSs} {hs : List Mem} {k : α → Option R} {o : Option α} {a j ci idx : Nat} {κs : List Nat} {ty : FieldType} {fin dec : Bool} {v : Int32} (hx : XF M.1 idx ci j ty fin dec) (hsh : x_lk shs a = some (.inr (.inr (ci, κs)))) (hκ : κs[j]? = some 0) (hv : x_hs hs a j = v) (hd : decode M.2.1 pc = .ok (.getfield idx, 3)) (hn : pc + 3 = n) (kk : XE B M Q n ls (.int v :: st) cs shs hs k o) : XE B M Q pc ls (.ref a :: st) cs shs hs k o := by
  subst hn
  obtain ⟨p, l, e, Rm, s, m, args, below, meth, c, D, cc, A, H0, ad0, shs0⟩ := B
  intro hO ad H locs lsA hP hD hS hA hL r hr
  obtain ⟨C, T, N, ty0, h1, h2, h3, h4, h5, h6, h7, h8, h9⟩ := hx
  obtain ⟨i, hi⟩ := x_lk_at hsh
  refine va_get (v := x_cv ad (.int v)) hO.1 hO.2.1 hO.2.2.2.2.1 h4 hO.2.2.2.1 hO.2.2.2.2.2.1 hP i (x_w_at hi) h1 j h2 (hO.2.2.2.2.1 _ h3) (fun _ z => z) ?_ hd (kk hO ad H locs lsA hP hD hS hA hL r hr)
  show (x_fs ad (a / 64) κs (x_hs hs a) 0)[j]? = _
  rw [x_fs_at, hκ, Nat.zero_add, hv]; rfl
theorem XE_getr {α R : Type} {B : XB} {M : XM} {Q : R → State → Prop} {pc n : Nat} {ls : XLs} {st : List Value} {cs : Nat × Nat} {shs : XSs} {hs : List Mem} {k : α → Option R} {o : Option α} {a j ci idx : Nat} {κs : List Nat} {ty : FieldType} {fin dec : Bool} {b : Nat} (hx : XF M.1 idx ci j ty fin dec) (hsh : x_lk shs a = some (.inr (.inr (ci, κs)))) (hκ : κs[j]? = some (b + 3)) (hd : decode M.2.1 pc = .ok (.getfield idx, 3)) (hn : pc + 3 = n) (kk : XE B M Q n ls (.ref b :: st) cs shs hs k o) : XE B M Q pc ls (.ref a :: st) cs shs hs k o := by
  subst hn
  obtain ⟨p, l, e, Rm, s, m, args, below, meth, c, D, cc, A, H0, ad0, shs0⟩ := B
  intro hO ad H locs lsA hP hD hS hA hL r hr
  obtain ⟨C, T, N, ty0, h1, h2, h3, h4, h5, h6, h7, h8, h9⟩ := hx
  obtain ⟨i, hi⟩ := x_lk_at hsh
  refine va_get (v := x_cv ad (.ref b)) hO.1 hO.2.1 hO.2.2.2.2.1 h4 hO.2.2.2.1 hO.2.2.2.2.2.1 hP i (x_w_at hi) h1 j h2 (hO.2.2.2.2.1 _ h3) (fun _ z => z) ?_ hd (kk hO ad H locs lsA hP hD hS hA hL r hr)
  show (x_fs ad (a / 64) κs (x_hs hs a) 0)[j]? = _
  rw [x_fs_at, hκ]; rfl
theorem XE_getd {α R : Type} {B : XB} {M : XM} {Q : R → State → Prop} {pc n : Nat} {ls : XLs} {st : List Value} {cs : Nat × Nat} {shs : XSs} {hs : List Mem} {k : α → Option R} {a j ci idx b : Nat} {κs : List Nat} {ty : FieldType} {fin dec : Bool} {v u : Int32} {o1 o2 : Option α} (hx : XF M.1 idx ci j ty fin dec) (hsh : x_lk shs a = some (.inr (.inr (ci, κs)))) (hκ : κs[j]? = some 2) (hv : x_hs hs a j = v) (hu : u ≠ 0) (hb : 64 * (a / 64) + u.toNatClampNeg % 64 = b) (hd : decode M.2.1 pc = .ok (.getfield idx, 3)) (hn : pc + 3 = n) (kk : XE B M Q n ls (.ref b :: st) cs shs hs k (o1)) (k2 : XE B M Q pc ls (.ref a :: st) cs shs hs k (o2)) : XE B M Q pc ls (.ref a :: st) cs shs hs k (if v = u then o1 else o2) := by
  refine XE_if (fun h => ?_) (fun _ => k2)
  subst hn
  obtain ⟨p, l, e, Rm, s, m, args, below, meth, c, D, cc, A, H0, ad0, shs0⟩ := B
  intro hO ad H locs lsA hP hD hS hA hL r hr
  obtain ⟨C, T, N, ty0, h1, h2, h3, h4, h5, h6, h7, h8, h9⟩ := hx
  obtain ⟨i, hi⟩ := x_lk_at hsh
  refine va_get (v := x_cv ad (.ref b)) hO.1 hO.2.1 hO.2.2.2.2.1 h4 hO.2.2.2.1 hO.2.2.2.2.2.1 hP i (x_w_at hi) h1 j h2 (hO.2.2.2.2.1 _ h3) (fun _ z => z) ?_ hd (kk hO ad H locs lsA hP hD hS hA hL r hr)
  show (x_fs ad (a / 64) κs (x_hs hs a) 0)[j]? = _
  rw [x_fs_at, hκ, Nat.zero_add, hv, h]
  show some (if u = 0 then Value.null else .ref (ad (64 * (a / 64) + u.toNatClampNeg % 64))) = _
  rw [if_neg hu, hb]; rfl
theorem XE_putf {α R : Type} {B : XB} {M : XM} {Q : R → State → Prop} {pc n : Nat} {ls : XLs} {st : List Value} {cs : Nat × Nat} {shs : XSs} {hs : List Mem} {k : α → Option R} {a j ci idx p : Nat} {κs : List Nat} {ty : FieldType} {dec : Bool} {v : Int32} {m : Mem} {hs2 : Mem → List Mem} {f : Mem → Option α} (hx : XF M.1 idx ci j .int false dec) (hsh : x_lk shs a = some (.inr (.inr (ci, κs)))) (hκ : κs[j]? = some 0) (hm : hs.getD (a / 64) (fun _ _ => 0) = m) (hp : a % 64 = p) (hg : a / 64 < hs.length) (hh : ∀ m', hs.set (a / 64) m' = hs2 m') (hd : decode M.2.1 pc = .ok (.putfield idx, 3)) (hn : pc + 3 = n) (kk : ∀ m', XE B M Q n ls (st) cs shs (hs2 m') k (f m')) : XE B M Q pc ls (.int v :: .ref a :: st) cs shs hs k (lt (xs m p j v) f) := by
  subst hn
  subst hp
  subst hm
  obtain ⟨p, l, e, Rm, s, m, args, below, meth, c, D, cc, A, H0, ad0, shs0⟩ := B
  intro hO ad H locs lsA hP hD hS hA hL r hr
  obtain ⟨C, T, N, ty0, h1, h2, h3, h4, h5, h6, h7, h8, h9⟩ := hx
  obtain ⟨i, hi⟩ := x_lk_at hsh
  have hcell : x_cell cc ad a (.inr (.inr (ci, κs))) (xs (hs.getD (a / 64) (fun _ _ => 0)) (a % 64) j v (a % 64)) = .inr (ci, (x_fs ad (a / 64) κs (x_hs hs a) 0).set j (x_cv ad (.int v))) := by
    show Sum.inr (ci, x_fs ad (a / 64) κs _ 0) = _
    rw [x_fs_upd hκ (x_hs hs a) (xs (hs.getD (a / 64) (fun _ _ => 0)) (a % 64) j v (a % 64)) (fun q hq => xs_ne _ _ _ _ q hq), xs_at]
    rfl
  refine va_put (ty := .int) (v := x_cv ad (.int v)) hO.1 hO.2.1 hO.2.2.2.2.1 h4 ty0 h5 h7 hO.2.2.2.1 hO.2.2.2.2.2.1 hP hD hS i (x_w_at hi) h1 j h2 (hO.2.2.2.2.1 _ h3) (fun _ z => z) h8 (by rw [h5 j h2, h6]) rfl rfl (by rw [x_fs_len]; exact (List.getElem?_eq_some_iff.mp hκ).1) hd (fun H1 locs1 g1 g2 g3 => ?_)
  have g4 := x_P_set hi hD hg (fun q hq => xs_off _ _ _ _ q hq) hcell g1
  rw [hh] at g4
  exact kk _ hO ad H1 locs1 lsA g4 (x_D_any hD) g3 hA hL r hr
theorem XE_putz {α R : Type} {B : XB} {M : XM} {Q : R → State → Prop} {pc n : Nat} {ls : XLs} {st : List Value} {cs : Nat × Nat} {shs : XSs} {hs : List Mem} {k : α → Option R} {a j ci idx p : Nat} {κs : List Nat} {ty : FieldType} {dec : Bool} {v : Int32} {m : Mem} {hs2 : Mem → List Mem} {f : Mem → Option α} (hx : XF M.1 idx ci j .boolean false dec) (hsh : x_lk shs a = some (.inr (.inr (ci, κs)))) (hκ : κs[j]? = some 0) (hm : hs.getD (a / 64) (fun _ _ => 0) = m) (hp : a % 64 = p) (hg : a / 64 < hs.length) (hh : ∀ m', hs.set (a / 64) m' = hs2 m') (hz : isb v = true) (hd : decode M.2.1 pc = .ok (.putfield idx, 3)) (hn : pc + 3 = n) (kk : ∀ m', XE B M Q n ls (st) cs shs (hs2 m') k (f m')) : XE B M Q pc ls (.int v :: .ref a :: st) cs shs hs k (lt (xs m p j v) f) := by
  subst hn
  subst hp
  subst hm
  obtain ⟨p, l, e, Rm, s, m, args, below, meth, c, D, cc, A, H0, ad0, shs0⟩ := B
  intro hO ad H locs lsA hP hD hS hA hL r hr
  obtain ⟨C, T, N, ty0, h1, h2, h3, h4, h5, h6, h7, h8, h9⟩ := hx
  obtain ⟨i, hi⟩ := x_lk_at hsh
  have hcell : x_cell cc ad a (.inr (.inr (ci, κs))) (xs (hs.getD (a / 64) (fun _ _ => 0)) (a % 64) j v (a % 64)) = .inr (ci, (x_fs ad (a / 64) κs (x_hs hs a) 0).set j (x_cv ad (.int v))) := by
    show Sum.inr (ci, x_fs ad (a / 64) κs _ 0) = _
    rw [x_fs_upd hκ (x_hs hs a) (xs (hs.getD (a / 64) (fun _ _ => 0)) (a % 64) j v (a % 64)) (fun q hq => xs_ne _ _ _ _ q hq), xs_at]
    rfl
  refine va_put (ty := .boolean) (v := x_cv ad (.int v)) hO.1 hO.2.1 hO.2.2.2.2.1 h4 ty0 h5 h7 hO.2.2.2.1 hO.2.2.2.2.2.1 hP hD hS i (x_w_at hi) h1 j h2 (hO.2.2.2.2.1 _ h3) (fun _ z => z) h8 (by rw [h5 j h2, h6]) (narrow_isb hz) (fits_isb hz) (by rw [x_fs_len]; exact (List.getElem?_eq_some_iff.mp hκ).1) hd (fun H1 locs1 g1 g2 g3 => ?_)
  have g4 := x_P_set hi hD hg (fun q hq => xs_off _ _ _ _ q hq) hcell g1
  rw [hh] at g4
  exact kk _ hO ad H1 locs1 lsA g4 (x_D_any hD) g3 hA hL r hr
theorem XE_putd {α R : Type} {B : XB} {M : XM} {Q : R → State → Prop} {pc n : Nat} {ls : XLs} {st : List Value} {cs : Nat × Nat} {shs : XSs} {hs : List Mem} {k : α → Option R} {a j ci idx p : Nat} {κs : List Nat} {ty : FieldType} {dec : Bool} {v : Int32} {m : Mem} {hs2 : Mem → List Mem} {f : Mem → Option α} {b : Nat} (hx : XF M.1 idx ci j ty false dec) (hsh : x_lk shs a = some (.inr (.inr (ci, κs)))) (hκ : κs[j]? = some 2) (hm : hs.getD (a / 64) (fun _ _ => 0) = m) (hp : a % 64 = p) (hg : a / 64 < hs.length) (hh : ∀ m', hs.set (a / 64) m' = hs2 m') (hv0 : v ≠ 0) (hvb : 64 * (a / 64) + v.toNatClampNeg % 64 = b) (ht : (∃ t, ty = .array t) ∨ ∃ t, ty = .object t) (hd : decode M.2.1 pc = .ok (.putfield idx, 3)) (hn : pc + 3 = n) (kk : ∀ m', XE B M Q n ls (st) cs shs (hs2 m') k (f m')) : XE B M Q pc ls (.ref b :: .ref a :: st) cs shs hs k (lt (xs m p j v) f) := by
  subst hn
  subst hp
  subst hm
  obtain ⟨p, l, e, Rm, s, m, args, below, meth, c, D, cc, A, H0, ad0, shs0⟩ := B
  intro hO ad H locs lsA hP hD hS hA hL r hr
  obtain ⟨C, T, N, ty0, h1, h2, h3, h4, h5, h6, h7, h8, h9⟩ := hx
  obtain ⟨i, hi⟩ := x_lk_at hsh
  have hcell : x_cell cc ad a (.inr (.inr (ci, κs))) (xs (hs.getD (a / 64) (fun _ _ => 0)) (a % 64) j v (a % 64)) = .inr (ci, (x_fs ad (a / 64) κs (x_hs hs a) 0).set j (x_cv ad (.ref b))) := by
    show Sum.inr (ci, x_fs ad (a / 64) κs _ 0) = _
    rw [x_fs_upd hκ (x_hs hs a) (xs (hs.getD (a / 64) (fun _ _ => 0)) (a % 64) j v (a % 64)) (fun q hq => xs_ne _ _ _ _ q hq), xs_at]
    show Sum.inr (ci, (x_fs ad (a / 64) κs (x_hs hs a) 0).set j (if v = 0 then Value.null else .ref (ad (64 * (a / 64) + v.toNatClampNeg % 64)))) = _
    rw [if_neg hv0, hvb]; rfl
  refine va_put (ty := ty) (v := x_cv ad (.ref b)) hO.1 hO.2.1 hO.2.2.2.2.1 h4 ty0 h5 h7 hO.2.2.2.1 hO.2.2.2.2.2.1 hP hD hS i (x_w_at hi) h1 j h2 (hO.2.2.2.2.1 _ h3) (fun _ z => z) h8 (by rw [h5 j h2, h6]) (by cases ht with | inl h => obtain ⟨t, rfl⟩ := h; rfl | inr h => obtain ⟨t, rfl⟩ := h; rfl) (by cases ht with | inl h => obtain ⟨t, rfl⟩ := h; rfl | inr h => obtain ⟨t, rfl⟩ := h; rfl) (by rw [x_fs_len]; exact (List.getElem?_eq_some_iff.mp hκ).1) hd (fun H1 locs1 g1 g2 g3 => ?_)
  have g4 := x_P_set hi hD hg (fun q hq => xs_off _ _ _ _ q hq) hcell g1
  rw [hh] at g4
  exact kk _ hO ad H1 locs1 lsA g4 (x_D_any hD) g3 hA hL r hr
theorem XE_iald {α R : Type} {B : XB} {M : XM} {Q : R → State → Prop} {pc n : Nat} {ls : XLs} {st : List Value} {cs : Nat × Nat} {shs : XSs} {hs : List Mem} {k : α → Option R} {o : Option α} {a len : Nat} {i : Int32} {row : Nat → Int32} (hsh : x_lk shs a = some (.inl len)) (hv : x_hs hs a = row) (hd : decode M.2.1 pc = .ok (.iaload, 1)) (hn : pc + 1 = n) (kk : XE B M Q n ls (.int (row (ix i)) :: st) cs shs hs k o) : XE B M Q pc ls (.int i :: .ref a :: st) cs shs hs k (ck (inb i len) o) := by
  refine XE_ck (fun hin => ?_)
  subst hn
  subst hv
  obtain ⟨p, l, e, Rm, s, m, args, below, meth, c, D, cc, A, H0, ad0, shs0⟩ := B
  intro hO ad H locs lsA hP hD hS hA hL r hr
  obtain ⟨i0, hi⟩ := x_lk_at hsh
  exact va_iald hO.1 hO.2.1 hO.2.2.2.2.2.1 hP i0 0 (x_w_at hi) rfl (inb_in hin) hd (kk hO ad H locs lsA hP hD hS hA hL r hr)
theorem XE_ialdc {α R : Type} {B : XB} {M : XM} {Q : R → State → Prop} {pc n : Nat} {ls : XLs} {st : List Value} {cs : Nat × Nat} {shs : XSs} {hs : List Mem} {k : α → Option R} {o : Option α} {a len j : Nat} {i : Int32} {row : Nat → Int32} (hsh : x_lk shs a = some (.inl len)) (hv : x_hs hs a = row) (hin : inb i len = true) (hj : ix i = j) (hd : decode M.2.1 pc = .ok (.iaload, 1)) (hn : pc + 1 = n) (kk : XE B M Q n ls (.int (row j) :: st) cs shs hs k o) : XE B M Q pc ls (.int i :: .ref a :: st) cs shs hs k o := by
  subst hn
  subst hv
  subst hj
  obtain ⟨p, l, e, Rm, s, m, args, below, meth, c, D, cc, A, H0, ad0, shs0⟩ := B
  intro hO ad H locs lsA hP hD hS hA hL r hr
  obtain ⟨i0, hi⟩ := x_lk_at hsh
  exact va_iald hO.1 hO.2.1 hO.2.2.2.2.2.1 hP i0 0 (x_w_at hi) rfl (inb_in hin) hd (kk hO ad H locs lsA hP hD hS hA hL r hr)
theorem XE_iastj {α R : Type} {B : XB} {M : XM} {Q : R → State → Prop} {pc n : Nat} {ls : XLs} {st : List Value} {cs : Nat × Nat} {shs : XSs} {hs : List Mem} {k : α → Option R} {a len p : Nat} {i v : Int32} {m : Mem} {hs2 : Mem → List Mem} {f : Mem → Option α} {j : Nat} (hsh : x_lk shs a = some (.inl len)) (hm : hs.getD (a / 64) (fun _ _ => 0) = m) (hp : a % 64 = p) (hg : a / 64 < hs.length) (hh : ∀ m', hs.set (a / 64) m' = hs2 m') (hin : inb i len = true) (hj : ix i = j) (hd : decode M.2.1 pc = .ok (.iastore, 1)) (hn : pc + 1 = n) (kk : ∀ m', XE B M Q n ls (st) cs shs (hs2 m') k (f m')) : XE B M Q pc ls (.int v :: .int i :: .ref a :: st) cs shs hs k (lt (xs m p j v) f) := by
  subst hn
  subst hp
  subst hm
  subst hj
  obtain ⟨p, l, e, Rm, s, m, args, below, meth, c, D, cc, A, H0, ad0, shs0⟩ := B
  intro hO ad H locs lsA hP hD hS hA hL r hr
  obtain ⟨i0, hi⟩ := x_lk_at hsh
  refine va_iast (D := D) (cl := vwCl) hO.1 hO.2.1 hO.2.2.2.2.2.1 hP hD hS i0 0 (x_w_at hi) rfl (inb_in hin) hd (fun H1 locs1 g1 g2 g3 => ?_)
  have g4 := x_P_set (m' := xs (hs.getD (a / 64) (fun _ _ => 0)) (a % 64) (ix i) v) hi hD hg (fun q hq => xs_off _ _ _ _ q hq) (by rw [xs_row]; rfl) g1
  rw [hh] at g4
  exact kk _ hO ad H1 locs1 lsA g4 (x_D_any hD) g3 hA hL r hr
theorem XE_iast {α R : Type} {B : XB} {M : XM} {Q : R → State → Prop} {pc n : Nat} {ls : XLs} {st : List Value} {cs : Nat × Nat} {shs : XSs} {hs : List Mem} {k : α → Option R} {a len p : Nat} {i v : Int32} {m : Mem} {hs2 : Mem → List Mem} {f : Mem → Option α} (hsh : x_lk shs a = some (.inl len)) (hm : hs.getD (a / 64) (fun _ _ => 0) = m) (hp : a % 64 = p) (hg : a / 64 < hs.length) (hh : ∀ m', hs.set (a / 64) m' = hs2 m') (hd : decode M.2.1 pc = .ok (.iastore, 1)) (hn : pc + 1 = n) (kk : ∀ m', XE B M Q n ls (st) cs shs (hs2 m') k (f m')) : XE B M Q pc ls (.int v :: .int i :: .ref a :: st) cs shs hs k (ck (inb i len) (lt (xs m p (ix i) v) f)) := XE_ck (fun hin => XE_iastj hsh hm hp hg hh hin rfl hd hn kk)
theorem XE_alen {α R : Type} {B : XB} {M : XM} {Q : R → State → Prop} {pc n : Nat} {ls : XLs} {st : List Value} {cs : Nat × Nat} {shs : XSs} {hs : List Mem} {k : α → Option R} {o : Option α} {a len : Nat} {v : Int32} (hsh : x_lk shs a = some (.inl len)) (hv : Int32.ofNat len = v) (hd : decode M.2.1 pc = .ok (.arraylength, 1)) (hn : pc + 1 = n) (kk : XE B M Q n ls (.int v :: st) cs shs hs k o) : XE B M Q pc ls (.ref a :: st) cs shs hs k o := by
  subst hn
  obtain ⟨p, l, e, Rm, s, m, args, below, meth, c, D, cc, A, H0, ad0, shs0⟩ := B
  intro hO ad H locs lsA hP hD hS hA hL r hr
  obtain ⟨i0, hi⟩ := x_lk_at hsh
  exact va_alen (D := D) (cl := vwCl) hO.1 hO.2.1 hO.2.2.2.2.2.1 hP i0 0 (x_w_at hi) (ty := .int) rfl hv hd (kk hO ad H locs lsA hP hD hS hA hL r hr)
theorem XE_aald {α R : Type} {B : XB} {M : XM} {Q : R → State → Prop} {pc n : Nat} {ls : XLs} {st : List Value} {cs : Nat × Nat} {shs : XSs} {hs : List Mem} {k : α → Option R} {a b : Nat} {i j : Int32} {ks : List Nat} {o1 o2 : Option α} (hsh : x_lk shs a = some (.inr (.inl ks))) (hin : inb j ks.length = true) (hb : ks.getD (ix j) 0 = b + 1) (hd : decode M.2.1 pc = .ok (.aaload, 1)) (hn : pc + 1 = n) (kk : XE B M Q n ls (.ref b :: st) cs shs hs k (o1)) (k2 : XE B M Q pc ls (.int i :: .ref a :: st) cs shs hs k (o2)) : XE B M Q pc ls (.int i :: .ref a :: st) cs shs hs k (if i = j then o1 else o2) := by
  refine XE_if (fun h => ?_) (fun _ => k2)
  subst hn
  subst h
  obtain ⟨p, l, e, Rm, s, m, args, below, meth, c, D, cc, A, H0, ad0, shs0⟩ := B
  intro hO ad H locs lsA hP hD hS hA hL r hr
  obtain ⟨i0, hi⟩ := x_lk_at hsh
  have hrf : va_rf (x_rf ad ks i.toNatClampNeg) = .ref (ad b) := by
    unfold x_rf
    rw [show ks.getD i.toNatClampNeg 0 = b + 1 from hb]; rfl
  refine va_aldq (C := RX2) hO.1 hO.2.1 hO.2.2.2.2.2.1 hP i0 1 (x_w_at hi) rfl (inb_in hin) hd ?_
  rw [hrf]
  exact (kk hO ad H locs lsA hP hD hS hA hL r hr)
def imax (x y : Int32) : Int32 := if x < y then y else x
def imin (x y : Int32) : Int32 := if y < x then y else x
def iabs (x : Int32) : Int32 := if 0 ≤ x then x else 0 - x
def lmax (x y : Int64) : Int64 := if y < x then x else y
def XMa (own : String) (idx : Nat) (y : MethodName) (bytes : ByteArray) (maxL : Nat) (ret : Option FieldType) : Prop := Cond.methodLink own idx y ∈ xT ∧ Cond.static y ∈ xT ∧ Cond.initialized y.cls ∈ xT ∧ Cond.code y bytes maxL ret ∈ xT
theorem XE_mmax {α R : Type} {B : XB} {M : XM} {Q : R → State → Prop} {pc n : Nat} {ls : XLs} {st : List Value} {cs : Nat × Nat} {shs : XSs} {hs : List Mem} {k : α → Option R} {o : Option α} {idx : Nat} {x y : Int32} (hx : XMa M.1 idx Lib.Math.max.name Lib.Math.max.code 2 (some .int)) (hcs : cs = (0, 0)) (h1 : 1 ≤ x_dp M) (hc : (st.map fun v => v.category).sum ≤ 20) (hd : decode M.2.1 pc = .ok (.invokestatic idx, 3)) (hn : pc + 3 = n) (kk : XE B M Q n ls (.int (imax x y) :: st) cs shs hs k o) : XE B M Q pc ls (.int y :: .int x :: st) cs shs hs k o := by
  subst hn
  subst hcs
  obtain ⟨p, l, e, Rm, s, m, args, below, meth, c, D, cc, A, H0, ad0, shs0⟩ := B
  intro hO ad H locs lsA hP hD hS hA hL r hr
  have hc' : ((st.map (x_cv ad)).map fun v => v.category).sum ≤ 20 := by rw [List.map_map, show ((fun v : Value => v.category) ∘ x_cv ad) = (fun v => v.category) from funext fun v => x_cv_cat ad v]; exact hc
  have hfr : x_dp M ≤ Rm.frames := hO.2.2.2.2.2.2.2.2.2.2.1
  have hlo : 40 * x_dp M ≤ Rm.locals := hO.2.2.2.2.2.2.2.2.2.2.2.1
  exact va_mmax hO.1 hO.2.1 (hO.2.2.1.trans hL.size.symm) hO.2.2.2.1 (hO.2.2.2.2.1 _ hx.1) (hO.2.2.2.2.1 _ hx.2.1) (hO.2.2.2.2.1 _ hx.2.2.1) (hO.2.2.2.2.1 _ hx.2.2.2) (by omega) (by omega) (Nat.zero_le _) (Nat.zero_le _) hd (kk hO ad H locs lsA hP hD hS hA hL r hr)
theorem XE_mmin {α R : Type} {B : XB} {M : XM} {Q : R → State → Prop} {pc n : Nat} {ls : XLs} {st : List Value} {cs : Nat × Nat} {shs : XSs} {hs : List Mem} {k : α → Option R} {o : Option α} {idx : Nat} {x y : Int32} (hx : XMa M.1 idx Lib.Math.min.name Lib.Math.min.code 2 (some .int)) (hcs : cs = (0, 0)) (h1 : 1 ≤ x_dp M) (hc : (st.map fun v => v.category).sum ≤ 20) (hd : decode M.2.1 pc = .ok (.invokestatic idx, 3)) (hn : pc + 3 = n) (kk : XE B M Q n ls (.int (imin x y) :: st) cs shs hs k o) : XE B M Q pc ls (.int y :: .int x :: st) cs shs hs k o := by
  subst hn
  subst hcs
  obtain ⟨p, l, e, Rm, s, m, args, below, meth, c, D, cc, A, H0, ad0, shs0⟩ := B
  intro hO ad H locs lsA hP hD hS hA hL r hr
  have hc' : ((st.map (x_cv ad)).map fun v => v.category).sum ≤ 20 := by rw [List.map_map, show ((fun v : Value => v.category) ∘ x_cv ad) = (fun v => v.category) from funext fun v => x_cv_cat ad v]; exact hc
  have hfr : x_dp M ≤ Rm.frames := hO.2.2.2.2.2.2.2.2.2.2.1
  have hlo : 40 * x_dp M ≤ Rm.locals := hO.2.2.2.2.2.2.2.2.2.2.2.1
  exact va_mmin hO.1 hO.2.1 (hO.2.2.1.trans hL.size.symm) hO.2.2.2.1 (hO.2.2.2.2.1 _ hx.1) (hO.2.2.2.2.1 _ hx.2.1) (hO.2.2.2.2.1 _ hx.2.2.1) (hO.2.2.2.2.1 _ hx.2.2.2) (by omega) (by omega) (Nat.zero_le _) (Nat.zero_le _) hd (kk hO ad H locs lsA hP hD hS hA hL r hr)
theorem XE_mabs {α R : Type} {B : XB} {M : XM} {Q : R → State → Prop} {pc n : Nat} {ls : XLs} {st : List Value} {cs : Nat × Nat} {shs : XSs} {hs : List Mem} {k : α → Option R} {o : Option α} {idx : Nat} {x : Int32} (hx : XMa M.1 idx Lib.Math.abs.name Lib.Math.abs.code 1 (some .int)) (hcs : cs = (0, 0)) (h1 : 1 ≤ x_dp M) (hc : (st.map fun v => v.category).sum ≤ 20) (hd : decode M.2.1 pc = .ok (.invokestatic idx, 3)) (hn : pc + 3 = n) (kk : XE B M Q n ls (.int (iabs x) :: st) cs shs hs k o) : XE B M Q pc ls (.int x :: st) cs shs hs k o := by
  subst hn
  subst hcs
  obtain ⟨p, l, e, Rm, s, m, args, below, meth, c, D, cc, A, H0, ad0, shs0⟩ := B
  intro hO ad H locs lsA hP hD hS hA hL r hr
  have hc' : ((st.map (x_cv ad)).map fun v => v.category).sum ≤ 20 := by rw [List.map_map, show ((fun v : Value => v.category) ∘ x_cv ad) = (fun v => v.category) from funext fun v => x_cv_cat ad v]; exact hc
  have hfr : x_dp M ≤ Rm.frames := hO.2.2.2.2.2.2.2.2.2.2.1
  have hlo : 40 * x_dp M ≤ Rm.locals := hO.2.2.2.2.2.2.2.2.2.2.2.1
  exact va_mabs hO.1 hO.2.1 (hO.2.2.1.trans hL.size.symm) hO.2.2.2.1 (hO.2.2.2.2.1 _ hx.1) (hO.2.2.2.2.1 _ hx.2.1) (hO.2.2.2.2.1 _ hx.2.2.1) (hO.2.2.2.2.1 _ hx.2.2.2) (by omega) (by omega) (Nat.zero_le _) (Nat.zero_le _) hd (kk hO ad H locs lsA hP hD hS hA hL r hr)
theorem XE_lmax {α R : Type} {B : XB} {M : XM} {Q : R → State → Prop} {pc n : Nat} {ls : XLs} {st : List Value} {cs : Nat × Nat} {shs : XSs} {hs : List Mem} {k : α → Option R} {o : Option α} {idx : Nat} {x y : Int64} (hx : XMa M.1 idx Lib.MathLoose.max_long.x Lib.MathLoose.max_long.code 4 (some .long)) (hcs : cs = (0, 0)) (h1 : 1 ≤ x_dp M) (hc : (st.map fun v => v.category).sum ≤ 20) (hd : decode M.2.1 pc = .ok (.invokestatic idx, 3)) (hn : pc + 3 = n) (kk : XE B M Q n ls (.long (lmax x y) :: st) cs shs hs k o) : XE B M Q pc ls (.long y :: .long x :: st) cs shs hs k o := by
  subst hn
  subst hcs
  obtain ⟨p, l, e, Rm, s, m, args, below, meth, c, D, cc, A, H0, ad0, shs0⟩ := B
  intro hO ad H locs lsA hP hD hS hA hL r hr
  have hc' : ((st.map (x_cv ad)).map fun v => v.category).sum ≤ 20 := by rw [List.map_map, show ((fun v : Value => v.category) ∘ x_cv ad) = (fun v => v.category) from funext fun v => x_cv_cat ad v]; exact hc
  have hfr : x_dp M ≤ Rm.frames := hO.2.2.2.2.2.2.2.2.2.2.1
  have hlo : 40 * x_dp M ≤ Rm.locals := hO.2.2.2.2.2.2.2.2.2.2.2.1
  exact va_mmax_long hO.1 hO.2.1 (hO.2.2.1.trans hL.size.symm) hO.2.2.2.1 (hO.2.2.2.2.1 _ hx.1) (hO.2.2.2.2.1 _ hx.2.1) (hO.2.2.2.2.1 _ hx.2.2.1) (hO.2.2.2.2.1 _ hx.2.2.2) (by omega) (by omega) (Nat.zero_le _) (Nat.zero_le _) hd (kk hO ad H locs lsA hP hD hS hA hL r hr)
def cpok (sp dp n : Int32) (n0 n1 : Nat) : Bool := decide (0 ≤ sp) && (decide (0 ≤ dp) && (decide (0 ≤ n) && (decide (ix sp + ix n ≤ n0) && decide (ix dp + ix n ≤ n1))))
def XCp (own : String) (idx : Nat) : Prop := Cond.methodLink own idx arraycopyName ∈ xT ∧ Cond.native arraycopyName ∈ xT ∧ Cond.static arraycopyName ∈ xT ∧ Cond.initialized "java/lang/System" ∈ xT
theorem xcp_row (m : Mem) (p : Nat) (f : Nat → Int32) (sp dp n : Nat) : xcp m p f sp dp n p = va_cpy f (m p) sp dp n := by
  funext q; simp [xcp]
theorem xcp_off (m : Mem) (p : Nat) (f : Nat → Int32) (sp dp n q : Nat) (h : q ≠ p) : xcp m p f sp dp n q = m q := by
  funext i; simp [xcp, h]
theorem cpok_spec {sp dp n : Int32} {n0 n1 : Nat} (h : cpok sp dp n n0 n1 = true) : ¬ sp < 0 ∧ ¬ dp < 0 ∧ ¬ n < 0 ∧ sp.toNatClampNeg + n.toNatClampNeg ≤ n0 ∧ dp.toNatClampNeg + n.toNatClampNeg ≤ n1 := by
  unfold cpok at h
  simp only [Bool.and_eq_true, decide_eq_true_eq] at h
  exact ⟨Int32.not_lt.mpr h.1, Int32.not_lt.mpr h.2.1, Int32.not_lt.mpr h.2.2.1, h.2.2.2.1, h.2.2.2.2⟩
theorem XE_cpyk {α R : Type} {B : XB} {M : XM} {Q : R → State → Prop} {pc n : Nat} {ls : XLs} {st : List Value} {cs : Nat × Nat} {shs : XSs} {hs : List Mem} {k : α → Option R} {a a0 n0 n1 idx p j0 j1 jn : Nat} {sp dp z : Int32} {m : Mem} {row : Nat → Int32} {hs2 : Mem → List Mem} {f : Mem → Option α} (hx : XCp M.1 idx) (hs0 : x_lk shs a0 = some (.inl n0)) (hsh : x_lk shs a = some (.inl n1)) (hrow : x_hs hs a0 = row) (hm : hs.getD (a / 64) (fun _ _ => 0) = m) (hp : a % 64 = p) (hg : a / 64 < hs.length) (hh : ∀ m', hs.set (a / 64) m' = hs2 m') (hok : cpok sp dp z n0 n1 = true) (hj0 : ix sp = j0) (hj1 : ix dp = j1) (hjn : ix z = jn) (h1 : 1 ≤ x_dp M) (hst : st = []) (hd : decode M.2.1 pc = .ok (.invokestatic idx, 3)) (hn : pc + 3 = n) (kk : ∀ m', XE B M Q n ls (st) cs shs (hs2 m') k (f m')) : XE B M Q pc ls (.int z :: .int dp :: .ref a :: .int sp :: .ref a0 :: st) cs shs hs k (lt (xcp m p row j0 j1 jn) f) := by
  subst hn
  subst hp
  subst hm
  subst hrow
  subst hst
  subst hj0
  subst hj1
  subst hjn
  obtain ⟨p, l, e, Rm, s, m, args, below, meth, c, D, cc, A, H0, ad0, shs0⟩ := B
  intro hO ad H locs lsA hP hD hS hA hL r hr
  obtain ⟨i0, hi⟩ := x_lk_at hsh
  obtain ⟨i1, hi1⟩ := x_lk_at hs0
  obtain ⟨q1, q2, q3, q4, q5⟩ := cpok_spec hok
  have hfr : x_dp M ≤ Rm.frames := hO.2.2.2.2.2.2.2.2.2.2.1
  have hlo : 40 * x_dp M ≤ Rm.locals := hO.2.2.2.2.2.2.2.2.2.2.2.1
  refine va_copyi (D := D) (cl := vwCl) (ty := .int) hO.1 hO.2.1 (hO.2.2.1.trans hL.size.symm) hO.2.2.2.1 (hO.2.2.2.2.1 _ hx.1) (hO.2.2.2.2.1 _ hx.2.1) (hO.2.2.2.2.1 _ hx.2.2.1) (hO.2.2.2.2.1 _ hx.2.2.2) hO.2.2.2.2.2.1 hP hD hS i1 i0 0 0 (x_w_at hi1) (x_w_at hi) rfl rfl rfl q1 q2 q3 q4 q5 (fun _ _ => rfl) (by omega) ?_ hd (fun H1 locs1 g1 g2 g3 => ?_)
  · have : nativeFrameWords "java/lang/System" "arraycopy" 5 + 11 ≤ 40 := by decide
    simp only [List.map_nil, List.sum_nil]
    omega
  · have g4 := x_P_set (m' := xcp (hs.getD (a / 64) (fun _ _ => 0)) (a % 64) (x_hs hs a0) (ix sp) (ix dp) (ix z)) hi hD hg (fun q hq => xcp_off _ _ _ _ _ _ q hq) (by rw [xcp_row]; rfl) g1
    rw [hh] at g4
    exact kk _ hO ad H1 locs1 lsA g4 (x_D_any hD) g3 hA hL r hr
theorem XE_cpy {α R : Type} {B : XB} {M : XM} {Q : R → State → Prop} {pc n : Nat} {ls : XLs} {st : List Value} {cs : Nat × Nat} {shs : XSs} {hs : List Mem} {k : α → Option R} {a a0 n0 n1 idx p : Nat} {sp dp z : Int32} {m : Mem} {row : Nat → Int32} {hs2 : Mem → List Mem} {f : Mem → Option α} (hx : XCp M.1 idx) (hs0 : x_lk shs a0 = some (.inl n0)) (hsh : x_lk shs a = some (.inl n1)) (hrow : x_hs hs a0 = row) (hm : hs.getD (a / 64) (fun _ _ => 0) = m) (hp : a % 64 = p) (hg : a / 64 < hs.length) (hh : ∀ m', hs.set (a / 64) m' = hs2 m') (h1 : 1 ≤ x_dp M) (hst : st = []) (hd : decode M.2.1 pc = .ok (.invokestatic idx, 3)) (hn : pc + 3 = n) (kk : ∀ m', XE B M Q n ls (st) cs shs (hs2 m') k (f m')) : XE B M Q pc ls (.int z :: .int dp :: .ref a :: .int sp :: .ref a0 :: st) cs shs hs k (ck (cpok sp dp z n0 n1) (lt (xcp m p row (ix sp) (ix dp) (ix z)) f)) := XE_ck (fun hok => XE_cpyk hx hs0 hsh hrow hm hp hg hh hok rfl rfl rfl h1 hst hd hn kk)
end
section
/-! CONTRACTS: XMet says of a method, from its own small world on, what it answers; a call puts the small world into the caller's by places of groups -/
def XQ (D : va_G) (cc : ClassId × ClassId) (A : Nat → Prop) (ad0 : Nat → Nat) (shs0 shsF : XSs) (r : XR) : Array Value → State → Outcome → State → Prop := fun _ st oc t => (∃ ad' : Nat → Nat, (∀ k, (x_lk shs0 k ≠ none ∨ x_lk shsF k = none) → ad' k = ad0 k) ∧ oc = .returned (r.1.map (x_cv ad')) ∧ va_P D vwCl (x_w cc ad' shsF r.2) t.heap ∧ va_K D vwCl (x_tys cc) t ∧ va_D A (x_w cc ad' shsF r.2)) ∧ va_F A st t
def XMet (l : Launch) (y : MethodName) (bytes : ByteArray) (maxL : Nat) (ret : Option FieldType) (d mc ms : Nat) (av : List Value) (shs : XSs) (hs : List Mem) (shsF : XSs) (r : XR) : Prop := ∀ (D : va_G) (cc : ClassId × ClassId) (ad : Nat → Nat) (sz : Nat), Met l y (Cond.code y bytes maxL ret :: xT) ({ frames := d, cells := mc, slots := ms, locals := 40 * d }) (va_Pc (av.map (x_cv ad)) (fun U => U.heap.size = sz ∧ va_P D vwCl (x_w cc ad shs hs) U.heap ∧ va_K D vwCl (x_tys cc) U ∧ va_D (fun _ => True) (x_w cc ad shs hs))) (XQ D cc (va_A (x_w cc ad shs hs) sz) ad shs shsF r) mc ms (va_A (x_w cc ad shs hs) sz)
def XQm (B : XB) (mc ms : Nat) (shsF : XSs) (r : XR) : State → Prop := match B with
  | (_, _, _, _, s, _, args, below, _, _, D, cc, A, _, ad0, shs0) => MQ below (XQ D cc A ad0 shs0 shsF r) args s mc ms A
def x_args : Nat → List Value → XLs
  | _, [] => []
  | i, v :: vs => (i, some v) :: x_args (if v.category = 2 then i + 2 else i + 1) vs
theorem x_args_in (ad : Nat → Nat) : ∀ (vs : List Value) (i j : Nat) (v : Value), xlk (x_args i vs) j = some v → (j, x_cv ad v) ∈ lv_args i (vs.map (x_cv ad))
  | [], _, _, _, h => by cases h
  | u :: us, i, j, v, h => by
    unfold x_args xlk at h
    by_cases e : i = j
    · rw [if_pos e] at h
      cases h
      subst e
      exact List.mem_cons_self
    · rw [if_neg e] at h
      refine List.mem_cons_of_mem _ ?_
      rw [x_cv_cat]
      exact x_args_in ad us _ j v h
theorem XMet.of {τ : Type} {l : Launch} {y : MethodName} {bytes : ByteArray} {maxL : Nat} {ret : Option FieldType} {d mc ms : Nat} {av : List Value} {shs : XSs} {hs : List Mem} {shsF : XSs} {k : τ → Option XR} {o : Option τ} (hy : plainName y.cls = true) (hlen : ∀ ad, (lg_sl (av.map (x_cv ad))).length ≤ maxL)
    (h : ∀ B : XB, XE B (y.cls, bytes, maxL, ret, y.name, d, mc, ms) (XQm B mc ms shsF) 0 (x_args 0 av) [] (0, 0) shs hs k o) {r : XR} (hr : o.bind k = some r) : XMet l y bytes maxL ret d mc ms av shs hs shsF r := by
  intro D cc ad sz
  refine Met.ofW (cc := bytes) (maxL := maxL) (ret := ret) hy rfl ?_
  intro p e s m args below meth c s₁ B hml hv
  obtain ⟨rfl, hsz, hP, hK, hD0⟩ := hv
  subst hsz
  have hts := atoms_spec (ws := Cond.code y bytes maxL ret :: xT) B.pre
  have hown : s.vm.findClass y.cls = some m.cls := findClass_of_methodNamed B.named
  have hD := hD0.self (sz := s.heap.size)
  generalize hAe : va_A (x_w cc ad shs hs) s.heap.size = A at hD ⊢
  have hA : ∀ q : Nat, s.heap.size ≤ q → A q := fun q h => by rw [← hAe]; exact Or.inr h
  have hl := lv_entry (av.map (x_cv ad)) (n := maxL) (hlen ad)
  rw [lg_entry_eq]
  refine h (p, l, e, (headSpec (Cond.code y bytes maxL ret :: xT) { frames := d, cells := mc, slots := ms, locals := 40 * d }).room, s, m, _, below, meth, c, D, cc, A, s.heap, ad, shs) ⟨B.exec, B.bytes, hml, hown, fun w hw => hts w (List.mem_cons_of_mem _ hw), hK, hA, B.returns, (name_of_methodNamed B.named B.method).1, B.notSynchronized, Nat.le_refl _, Nat.le_refl _, rfl, Nat.le_refl _, Nat.le_refl _⟩ ad s.heap [] _ hP hD va_S.rf ⟨fun _ h => h, fun _ _ => rfl⟩ ⟨_, hl, fun i v hi => ?_⟩ r hr
  exact x_args_in ad av 0 i v hi
/-! renaming of places -/
def x_rk (π : List Nat) (k : Nat) : Nat := 64 * π.getD (k / 64) (k / 64) + k % 64
def x_rv (π : List Nat) (v : Value) : Value := match v with
  | .ref k => .ref (x_rk π k)
  | w => w
def x_rκ (π : List Nat) (κ : Nat) : Nat := match κ with
  | 0 => 0
  | 1 => 1
  | 2 => 2
  | k + 3 => x_rk π k + 3
def x_rj (π : List Nat) (j : Nat) : Nat := match j with
  | 0 => 0
  | k + 1 => x_rk π k + 1
def x_rs (π : List Nat) (sh : XSh) : XSh := match sh with
  | .inl n => .inl n
  | .inr (.inl ks) => .inr (.inl (ks.map (x_rj π)))
  | .inr (.inr o) => .inr (.inr (o.1, o.2.map (x_rκ π)))
theorem x_rk_div (π : List Nat) (k : Nat) : x_rk π k / 64 = π.getD (k / 64) (k / 64) := by unfold x_rk; omega
theorem x_rk_mod (π : List Nat) (k : Nat) : x_rk π k % 64 = k % 64 := by unfold x_rk; omega
theorem x_rk_put (π : List Nat) (g q : Nat) (h : q < 64) : x_rk π (64 * g + q) = 64 * π.getD g g + q := by
  unfold x_rk
  rw [show (64 * g + q) / 64 = g by omega, show (64 * g + q) % 64 = q by omega]
theorem x_cv_rv (ad : Nat → Nat) (π : List Nat) (v : Value) : x_cv ad (x_rv π v) = x_cv (fun k => ad (x_rk π k)) v := by cases v <;> rfl
theorem x_fs_rn (ad : Nat → Nat) (π : List Nat) (k : Nat) : ∀ (κs : List Nat) (row : Nat → Int32) (i : Nat), x_fs ad (x_rk π k / 64) (κs.map (x_rκ π)) row i = x_fs (fun k => ad (x_rk π k)) (k / 64) κs row i
  | [], _, _ => rfl
  | κ :: r, row, i => by
    show x_fv ad (x_rk π k / 64) (x_rκ π κ) (row i) :: x_fs ad (x_rk π k / 64) (r.map (x_rκ π)) row (i + 1) = x_fv _ (k / 64) κ (row i) :: _
    rw [x_fs_rn ad π k r row (i + 1)]
    congr 1
    match κ with
    | 0 => rfl
    | 1 => rfl
    | 2 =>
      show (if row i = 0 then Value.null else .ref (ad (64 * (x_rk π k / 64) + (row i).toNatClampNeg % 64))) = if row i = 0 then Value.null else .ref (ad (x_rk π (64 * (k / 64) + (row i).toNatClampNeg % 64)))
      rw [x_rk_div, x_rk_put _ _ _ (Nat.mod_lt _ (by decide))]
    | j + 3 => rfl
theorem x_rf_rn (ad : Nat → Nat) (π : List Nat) (ks : List Nat) : x_rf ad (ks.map (x_rj π)) = x_rf (fun k => ad (x_rk π k)) ks := by
  funext i
  have h : (ks.map (x_rj π)).getD i 0 = x_rj π (ks.getD i 0) := by
    simp only [List.getD, List.getElem?_map]
    cases ks[i]? <;> rfl
  unfold x_rf
  rw [h]
  cases ks.getD i 0 <;> rfl
theorem x_cell_rn (cc : ClassId × ClassId) (ad : Nat → Nat) (π : List Nat) (k : Nat) (sh : XSh) (row : Nat → Int32) : x_cell cc ad (x_rk π k) (x_rs π sh) row = x_cell cc (fun k => ad (x_rk π k)) k sh row := by
  match sh with
  | .inl n => rfl
  | .inr (.inl ks) =>
    show Sum.inl (cc.2, ((ks.map (x_rj π)).length, _)) = Sum.inl (cc.2, (ks.length, _))
    rw [List.length_map, x_rf_rn]
  | .inr (.inr o) =>
    show Sum.inr (o.1, x_fs ad (x_rk π k / 64) (o.2.map (x_rκ π)) row 0) = _
    rw [x_fs_rn]; rfl
def x_okc (π : List Nat) (shsL shs : XSs) : Bool := shsL.all (fun q => decide (x_lk shs (x_rk π q.1) = some (x_rs π q.2)) && decide (q.1 / 64 < π.length)) && (va_nd (shsL.map (fun q => x_rk π q.1)) && (shs.all (fun q => !(π.contains (q.1 / 64)) || (shsL.map (fun q => x_rk π q.1)).contains q.1) && va_nd π))
def x_mrg : List Nat → List Mem → List Mem → List Mem
  | [], hs, _ => hs
  | g :: π, hs, ms => x_mrg π (hs.set g (ms.headD (fun _ _ => 0))) ms.tail
theorem x_mrg_out : ∀ (π : List Nat) (hs ms : List Mem) (g : Nat), g ∉ π → (x_mrg π hs ms).getD g (fun _ _ => 0) = hs.getD g (fun _ _ => 0)
  | [], _, _, _, _ => rfl
  | a :: π, hs, ms, g, h => by
    show (x_mrg π (hs.set a _) ms.tail).getD g _ = _
    rw [x_mrg_out π _ _ g (fun q => h (List.mem_cons_of_mem _ q))]
    have e : a ≠ g := fun q => h (by rw [q]; exact List.mem_cons_self)
    simp [List.getD, List.getElem?_set_ne e]
theorem x_mrg_in : ∀ (π : List Nat) (hs ms : List Mem), va_nd π = true → (∀ g ∈ π, g < hs.length) → ms.length = π.length → ∀ (j g : Nat), π[j]? = some g → (x_mrg π hs ms).getD g (fun _ _ => 0) = ms.getD j (fun _ _ => 0)
  | [], _, _, _, _, _, _, _, h => by simp at h
  | a :: π, hs, [], _, _, hl, _, _, _ => by simp at hl
  | a :: π, hs, m :: ms, hn, hb, hl, j, g, h => by
    simp only [va_nd, Bool.and_eq_true, decide_eq_true_eq] at hn
    show (x_mrg π (hs.set a m) ms).getD g _ = _
    cases j with
    | zero =>
      cases h
      rw [x_mrg_out π _ _ a hn.1]
      have := hb a List.mem_cons_self
      simp [List.getD, List.getElem?_set_self this]
    | succ j =>
      rw [x_mrg_in π (hs.set a m) ms hn.2 (fun g hg => by rw [List.length_set]; exact hb g (List.mem_cons_of_mem _ hg)) (by simpa using hl) j g h]
      rfl
theorem x_hs_sel {π : List Nat} {hs : List Mem} {k : Nat} (h : k / 64 < π.length) : x_hs (π.map (fun g => hs.getD g (fun _ _ => 0))) k = x_hs hs (x_rk π k) := by
  unfold x_hs
  rw [x_rk_div, x_rk_mod]
  congr 1
  simp only [List.getD, List.getElem?_map, List.getElem?_eq_getElem h, Option.map_some, Option.getD_some]
/-- the callee's world, cut out of the caller's -/
theorem x_cut {D : va_G} {cc : ClassId × ClassId} {A : Nat → Prop} {ad : Nat → Nat} {π : List Nat} {shsL shs : XSs} {hsL hs : List Mem} {H : Heap} (hok : x_okc π shsL shs = true) (hsel : π.map (fun g => hs.getD g (fun _ _ => 0)) = hsL) (hP : va_P D vwCl (x_w cc ad shs hs) H) (hD : va_D A (x_w cc ad shs hs)) :
    va_P D vwCl (x_w cc (fun k => ad (x_rk π k)) shsL hsL) H ∧ va_D A (x_w cc (fun k => ad (x_rk π k)) shsL hsL) ∧ ∀ q, q < H.size → va_A (x_w cc (fun k => ad (x_rk π k)) shsL hsL) H.size q → A q := by
  simp only [x_okc, Bool.and_eq_true, List.all_eq_true, decide_eq_true_eq] at hok
  obtain ⟨h1, h2, h3, h4⟩ := hok
  have at1 : ∀ (j k : Nat) (sh : XSh), shsL[j]? = some (k, sh) → ∃ i : Nat, shs[i]? = some (x_rk π k, x_rs π sh) ∧ k / 64 < π.length := fun j k sh hj => by
    obtain ⟨e1, e2⟩ := h1 _ (List.mem_of_getElem? hj)
    obtain ⟨i, hi⟩ := x_lk_at e1
    exact ⟨i, hi, e2⟩
  subst hsel
  refine ⟨fun j q hq => ?_, ⟨fun i j p q hi hj hpq => ?_, fun j q hq => ?_⟩, fun q hq hA => ?_⟩
  · obtain ⟨k, sh, hj, rfl⟩ := x_w_of hq
    obtain ⟨i, hi, hb⟩ := at1 j k sh hj
    have := hP i _ (x_w_at hi)
    rw [x_cell_rn, ← x_hs_sel hb] at this
    exact this
  · obtain ⟨k, sh, h5, rfl⟩ := x_w_of hi
    obtain ⟨k2, sh2, h6, rfl⟩ := x_w_of hj
    obtain ⟨i1, g1, -⟩ := at1 _ _ _ h5
    obtain ⟨i2, g2, -⟩ := at1 _ _ _ h6
    have hii := x_uniq hD g1 g2 hpq
    subst hii
    have hkk : x_rk π k = x_rk π k2 := by rw [g1] at g2; exact congrArg (fun z => (z.getD (0, .inl 0)).1) g2
    exact va_nd_inj _ h2 i j (x_rk π k) (by rw [List.getElem?_map, h5]; rfl) (by rw [List.getElem?_map, h6, hkk]; rfl)
  · obtain ⟨k, sh, hj, rfl⟩ := x_w_of hq
    obtain ⟨i, hi, -⟩ := at1 j k sh hj
    have h9 := hD.2 i _ (x_w_at (cc := cc) (ad := ad) (hs := hs) hi)
    exact h9
  · rcases hA with ⟨j, e, hj⟩ | hA
    · obtain ⟨k, sh, hj2, he⟩ := x_w_of hj
      obtain ⟨i, hi, -⟩ := at1 j k sh hj2
      have h9 := hD.2 i _ (x_w_at (cc := cc) (ad := ad) (hs := hs) hi)
      have e1 : q = ad (x_rk π k) := congrArg Prod.fst he
      rw [e1]; exact h9
    · omega
/-- and put back -/
theorem x_back {D : va_G} {cc : ClassId × ClassId} {A : Nat → Prop} {ad : Nat → Nat} {π : List Nat} {shsL shs : XSs} {hsL hs ms : List Mem} {H H1 : Heap} (hok : x_okc π shsL shs = true) (hml : ms.length = π.length) (hpl : ∀ g ∈ π, g < hs.length) (hP : va_P D vwCl (x_w cc ad shs hs) H) (hD : va_D A (x_w cc ad shs hs))
    (hk : ∀ q : Nat, q < H.size → ¬ va_A (x_w cc (fun k => ad (x_rk π k)) shsL hsL) H.size q → H1[q]? = H[q]?) (hP1 : va_P D vwCl (x_w cc (fun k => ad (x_rk π k)) shsL ms) H1) : va_P D vwCl (x_w cc ad shs (x_mrg π hs ms)) H1 := by
  simp only [x_okc, Bool.and_eq_true, List.all_eq_true, decide_eq_true_eq] at hok
  obtain ⟨h1, h2, h3, h4⟩ := hok
  intro i q hq
  obtain ⟨k, sh, hi, rfl⟩ := x_w_of hq
  by_cases hin : k ∈ shsL.map (fun q => x_rk π q.1)
  · obtain ⟨⟨kL, shL⟩, hm, rfl⟩ := List.mem_map.mp hin
    obtain ⟨j, hj⟩ := List.getElem?_of_mem hm
    obtain ⟨e1, e2⟩ := h1 _ hm
    obtain ⟨i2, hi2⟩ := x_lk_at e1
    have hii := x_uniq hD hi hi2 rfl
    subst hii
    have hsh : sh = x_rs π shL := by rw [hi] at hi2; exact congrArg (fun z => (z.getD (0, .inl 0)).2) hi2
    subst hsh
    have h5 := hP1 j _ (x_w_at (cc := cc) (ad := fun k => ad (x_rk π k)) (hs := ms) hj)
    have e3 : x_hs (x_mrg π hs ms) (x_rk π kL) = x_hs ms kL := by
      unfold x_hs
      rw [x_rk_div, x_rk_mod]
      have hg : π[kL / 64]? = some (π.getD (kL / 64) (kL / 64)) := by simp [List.getD, List.getElem?_eq_getElem e2]
      exact congrFun (x_mrg_in π hs ms h4 hpl hml _ _ hg) _
    rw [x_cell_rn, e3]
    exact h5
  · have hg : k / 64 ∉ π := fun hg => by
      have := h3 _ (List.mem_of_getElem? hi)
      have c1 : π.contains (k / 64) = true := List.elem_eq_true_of_mem hg
      simp only [c1, Bool.not_true, Bool.false_or] at this
      exact hin (List.mem_of_elem_eq_true this)
    have h5 := hP i _ (x_w_at hi)
    have hlt := h5.lt
    have hA : ¬ va_A (x_w cc (fun k => ad (x_rk π k)) shsL hsL) H.size (ad k) := by
      intro z
      rcases z with ⟨j, e, hj⟩ | z
      · obtain ⟨kL, shL, hj2, he⟩ := x_w_of hj
        obtain ⟨e1, e2⟩ := h1 _ (List.mem_of_getElem? hj2)
        obtain ⟨i2, hi2⟩ := x_lk_at e1
        have e3 : ad k = ad (x_rk π kL) := congrArg Prod.fst he
        have hii := x_uniq hD hi hi2 e3
        subst hii
        have hkk : k = x_rk π kL := by rw [hi] at hi2; exact congrArg (fun z => (z.getD (0, .inl 0)).1) hi2
        exact hin (List.mem_map.mpr ⟨(kL, shL), List.mem_of_getElem? hj2, hkk.symm⟩)
      · exact absurd hlt (Nat.not_lt.mpr z)
    have e3 : x_hs (x_mrg π hs ms) k = x_hs hs k := by
      unfold x_hs
      rw [x_mrg_out π hs ms _ hg]
    rw [e3]
    exact h5.kept (hk _ hlt hA)
section XCALL
variable {p : Program} {l : Launch} {e : Env} {R : Room} {s : State} {m : MethodId} {args : Array Value} {below : List Frame} {meth : Method} {c : Code} {H : Heap} {locs : List Loc} {cells slots : Nat} {Q : State → Prop} {pc : Nat} {ls : Array Slot} {rest st0 : List Value} {a : Array Value} {A0 : Nat → Prop} {H0 : Heap} {D : va_G} {cc : ClassId × ClassId}
/-- behind a call that makes no cell -/
theorem x_after {ad : Nat → Nat} {π : List Nat} {shsL shs : XSs} {hsL hs : List Mem} {rr : XR} (hr : va_Run p l e R s m args below meth c H locs cells slots 0 0 (F0 m pc ls st0) rest (XQ D cc (va_A (x_w cc (fun k => ad (x_rk π k)) shsL hsL) H.size) (fun k => ad (x_rk π k)) shsL shsL rr a) (va_A (x_w cc (fun k => ad (x_rk π k)) shsL hsL) H.size))
    (hok : x_okc π shsL shs = true) (hsel : π.map (fun g => hs.getD g (fun _ _ => 0)) = hsL) (hml : rr.2.length = π.length) (hpl : ∀ g ∈ π, g < hs.length) (hP : va_P D vwCl (x_w cc ad shs hs) H) (hD : va_D A0 (x_w cc ad shs hs)) (hS : va_S A0 H0 H locs) (hA : ∀ q, H0.size ≤ q → A0 q)
    (kk : ∀ (H1 : Heap) (locs1 : List Loc), va_P D vwCl (x_w cc ad shs (x_mrg π hs rr.2)) H1 → va_S A0 H0 H1 locs1 → W p l e R s m args below meth c H1 locs1 cells slots Q (F0 m (pc + 3) ls (((rr.1.map (x_rv π)).toList ).map (x_cv ad) ++ rest))) : W p l e R s m args below meth c H locs cells slots Q (F0 m pc ls st0) := by
  have hcut := x_cut hok hsel hP hD
  have hAA : ∀ q, va_A (x_w cc (fun k => ad (x_rk π k)) shsL hsL) H.size q → A0 q := fun q hq => by
    by_cases hz : q < H.size
    · exact hcut.2.2 q hz hq
    · exact hA q (Nat.le_trans hS.1 (Nat.not_lt.mp hz))
  intro T hT X
  obtain ⟨v, st₀, t, T', L, h0, X', hL, e1, e2, ⟨⟨ad', q1, hv, q2, q3, q4⟩, hz, hk⟩, st⟩ := hr T hT X
  have had : ad' = fun k => ad (x_rk π k) := funext fun k => q1 k (by by_cases z : x_lk shsL k = none; exact Or.inr z; exact Or.inl z)
  subst had
  have hv2 : v = rr.1.map (x_cv (fun k => ad (x_rk π k))) := by cases hv; rfl
  rw [h0] at hz hk
  have hP2 := x_back (hsL := hsL) hok hml hpl hP hD hk q2
  have hvv : v.toList = ((rr.1.map (x_rv π)).toList).map (x_cv ad) := by
    rw [hv2]
    cases rr.1 with
    | none => rfl
    | some u => show [_] = [_]; rw [x_cv_rv]
  obtain ⟨t2, a1, b1⟩ := kk T'.heap (locs ++ L) (by rw [e1]; exact hP2)
    ⟨Nat.le_trans hS.1 (by rw [e1]; exact hz), fun q h1 h2 => by rw [e1, hk q (Nat.lt_of_lt_of_le h1 hS.1) (fun z => h2 (hAA q z))]; exact hS.2.1 q h1 h2, fun q hq => by
      rcases List.mem_append.mp hq with h | h
      · exact hS.2.2 q h
      · exact hAA _ (hL q h)⟩ T' rfl (by have := X'; rwa [Nat.add_zero, Nat.add_zero] at this)
  rw [← hvv] at a1
  exact ⟨t2, st t2 a1, b1⟩
end XCALL
def XCV (own : String) (idx : Nat) (C : String) (y : MethodName) (bytes : ByteArray) (maxL : Nat) (ret : Option FieldType) (n : Nat) : Prop := Cond.methodLink own idx y ∈ xT ∧ Cond.instanceMethod y ∈ xT ∧ Cond.selects C y y ∈ xT ∧ Cond.initialized C ∈ xT ∧ Cond.code y bytes maxL ret ∈ xT ∧ (y.cls = C ∧ y.cls ≠ "java/lang/invoke/MethodHandle" ∧ y.cls ≠ "java/lang/invoke/VarHandle" ∧ (parseMethodDescriptor y.desc).map (fun d => d.parameters.length) = some n)
def XCS (own : String) (idx : Nat) (y : MethodName) (bytes : ByteArray) (maxL : Nat) (ret : Option FieldType) (n : Nat) : Prop := Cond.methodLink own idx y ∈ xT ∧ Cond.static y ∈ xT ∧ Cond.initialized y.cls ∈ xT ∧ Cond.code y bytes maxL ret ∈ xT ∧ (y.cls ≠ "java/lang/invoke/MethodHandle" ∧ y.cls ≠ "java/lang/invoke/VarHandle" ∧ (parseMethodDescriptor y.desc).map (fun d => d.parameters.length) = some n)
theorem x_cat_map (ad : Nat → Nat) (st : List Value) : ((st.map (x_cv ad)).map fun v => v.category).sum = (st.map fun v => v.category).sum := by rw [List.map_map, show ((fun v : Value => v.category) ∘ x_cv ad) = (fun v => v.category) from funext fun v => x_cv_cat ad v]
theorem x_blind {D : va_G} {cc : ClassId × ClassId} {av : List Value} {ad : Nat → Nat} {sz : Nat} {shs : XSs} {hs : List Mem} : FrameBlind (va_Pc (av.map (x_cv ad)) (fun U => U.heap.size = sz ∧ va_P D vwCl (x_w cc ad shs hs) U.heap ∧ va_K D vwCl (x_tys cc) U ∧ va_D (fun _ => True) (x_w cc ad shs hs))) := fun a U g mk q => by
  obtain ⟨q0, q1, qP, qK, qD⟩ := q
  exact ⟨q0, q1, qP, va_K.moved (u := U) (U := U.calling g mk a) (Vm.Alike.refl U.vm) qK, qD⟩

theorem XE_callV {α R : Type} {B : XB} {M : XM} {Q : R → State → Prop} {pc n : Nat} {ls : XLs} {st : List Value} {cs : Nat × Nat} {shs : XSs} {hs : List Mem} {k : α → Option R} {τ : Type} {o1 : Option τ} {f : τ → Option α} {idx ni d maxL : Nat} {y : MethodName} {bytes : ByteArray} {ret : Option FieldType} {av As stk : List Value} {π : List Nat} {shsL : XSs} {hsL : List Mem} {rv : τ → Option Value} {hsR hs2 : τ → List Mem} {C : String} {b ci : Nat} {κs : List Nat} (hx : XCV M.1 idx C y bytes maxL ret ni) (hM : ∀ l t, o1 = some t → XMet l y bytes maxL ret d 0 0 av shsL hsL shsL (rv t, hsR t)) (hav : av.map (x_rv π) = .ref b :: As) (hst : stk = As.reverse ++ .ref b :: st) (hni : As.length = ni) (hrc : x_lk shs b = some (.inr (.inr (ci, κs)))) (hcl : (vwCl[ci]?).map (fun q => q.1) = some C) (hd : decode M.2.1 pc = .ok (.invokevirtual idx, 3)) (hdp : d + 1 ≤ x_dp M) (hcs : cs.1 ≤ x_mc M ∧ cs.2 ≤ x_ms M) (hmL : maxL ≤ 21) (hcat : (st.map fun v => v.category).sum ≤ 8) (hok : x_okc π shsL shs = true) (hsel : π.map (fun g => hs.getD g (fun _ _ => 0)) = hsL) (hml : ∀ t, (hsR t).length = π.length) (hpl : ∀ g ∈ π, g < hs.length) (hmg : ∀ t, x_mrg π hs (hsR t) = hs2 t) (hn : pc + 3 = n) (kk : ∀ t, XE B M Q n ls (((rv t).map (x_rv π)).toList ++ st) cs shs (hs2 t) k (f t)) : XE B M Q pc ls stk cs shs hs k (o1.bind f) := by
  subst hn
  obtain ⟨p, l, e, Rm, s, m, args, below, meth, c, D, cc, A, H0, ad0, shs0⟩ := B
  intro hO ad H locs lsA hP hD hS hA hL r hr
  cases ho1 : o1 with
  | none => rw [ho1] at hr; cases hr
  | some t =>
  rw [ho1] at hr
  have hfr : x_dp M ≤ Rm.frames := hO.2.2.2.2.2.2.2.2.2.2.1
  have hlo : 40 * x_dp M ≤ Rm.locals := hO.2.2.2.2.2.2.2.2.2.2.2.1
  have hcl2 : cs.1 ≤ Rm.cells ∧ cs.2 ≤ Rm.slots := ⟨Nat.le_trans hcs.1 hO.2.2.2.2.2.2.2.2.2.2.2.2.2.1, Nat.le_trans hcs.2 hO.2.2.2.2.2.2.2.2.2.2.2.2.2.2⟩
  have hcut := x_cut hok hsel hP hD
  have hcode := List.mem_filter.mp hx.2.2.2.2.1
  subst hst
  obtain ⟨ib, hib⟩ := x_lk_at hrc
  obtain ⟨qc, hqc, hqC⟩ : ∃ q, vwCl[ci]? = some q ∧ q.1 = C := by
    cases z : vwCl[ci]? with
    | none => rw [z] at hcl; cases hcl
    | some q => rw [z] at hcl; exact ⟨q, rfl, Option.some.inj hcl⟩
  have hrecv : ∃ cell : Cell, H[ad b]? = some cell ∧ cell.vm.isStatics = false ∧ s.vm.findClass C = some cell.cls := by
    rw [← hqC]
    exact va_recv hO.2.2.2.2.2.1 hP (q0 := ib) (ci := ci) hqc (x_w_at hib)
  have hrun : va_Run p l e Rm s m args below meth c H locs cs.1 cs.2 0 0 (F0 m pc lsA ((As.reverse ++ .ref b :: st).map (x_cv ad))) (st.map (x_cv ad)) (XQ D cc (va_A (x_w cc (fun k => ad (x_rk π k)) shsL hsL) H.size) (fun k => ad (x_rk π k)) shsL shsL (rv t, hsR t) (Value.ref (ad b) :: As.map (x_cv ad)).toArray) (va_A (x_w cc (fun k => ad (x_rk π k)) shsL hsL) H.size) := by
    have hav2 : av.map (x_cv (fun k => ad (x_rk π k))) = (Value.ref (ad b) :: As.map (x_cv ad)) := by
      rw [show av.map (x_cv (fun k => ad (x_rk π k))) = (av.map (x_rv π)).map (x_cv ad) from by rw [List.map_map]; exact List.map_congr_left (fun v _ => (x_cv_rv ad π v).symm), hav] <;> rfl
    have hB : ∀ U : State, U.heap = H → s.WarmedH U.vm → va_Pc (av.map (x_cv (fun k => ad (x_rk π k)))) (fun U => U.heap.size = H.size ∧ va_P D vwCl (x_w cc (fun k => ad (x_rk π k)) shsL hsL) U.heap ∧ va_K D vwCl (x_tys cc) U ∧ va_D (fun _ => True) (x_w cc (fun k => ad (x_rk π k)) shsL hsL)) (Value.ref (ad b) :: As.map (x_cv ad)).toArray U := fun U hU hW => ⟨by rw [hav2], by rw [hU], by rw [hU]; exact hcut.1, va_K.moved hW.alike hO.2.2.2.2.2.1, hcut.2.1.weaken (fun _ _ _ _ => trivial)⟩
    have hzero : cs.1 + 0 ≤ Rm.cells ∧ cs.2 + 0 ≤ Rm.slots := ⟨hcl2.1, hcl2.2⟩
    exact va_runV (C := C) (b := ad b) (As := As.map (x_cv ad)) (n := ni) ⟨hO.1, hO.2.1, hO.2.2.1, hO.2.2.2.1, hO.2.2.2.2.1⟩ (hM l t ho1 D cc (fun k => ad (x_rk π k)) H.size) (cwV ni hO.2.2.2.2.1 (goodIn_tbl (fun w hw => by
        unfold wsV at hw
        simp only [List.cons_append, List.nil_append, List.mem_cons] at hw
        rcases hw with rfl | rfl | rfl | rfl | rfl | hw
        · exact hx.1
        · exact hx.2.1
        · exact hx.2.2.1
        · exact hx.2.2.2.1
        · exact hx.2.2.2.2.1
        · exact hw)) rfl rfl rfl hx.2.2.2.2.2 ⟨by show d + 1 ≤ Rm.frames; omega, by show 8 + (maxL + 11) + 40 * d ≤ Rm.locals; omega⟩) ⟨x_blind, hrecv, hB⟩ rfl (by rw [List.length_map]; exact hni) hL.size (by
        show ((As.reverse ++ Value.ref b :: st).map (x_cv ad)) = _
        rw [List.map_append, List.map_reverse]; rfl) (lv_room (by rw [x_cat_map]; exact hcat)) hd hzero
  refine x_after hrun hok hsel (hml t) hpl hP hD hS hO.2.2.2.2.2.2.1 (fun H1 locs1 g1 g3 => ?_)
  have g1' : va_P D vwCl (x_w cc ad shs (x_mrg π hs (hsR t))) H1 := g1
  rw [hmg t] at g1'
  have := kk t hO ad H1 locs1 lsA g1' (x_D_any hD) g3 hA hL r hr
  rw [List.map_append] at this
  exact this
theorem XE_callS {α R : Type} {B : XB} {M : XM} {Q : R → State → Prop} {pc n : Nat} {ls : XLs} {st : List Value} {cs : Nat × Nat} {shs : XSs} {hs : List Mem} {k : α → Option R} {τ : Type} {o1 : Option τ} {f : τ → Option α} {idx ni d maxL : Nat} {y : MethodName} {bytes : ByteArray} {ret : Option FieldType} {av As stk : List Value} {π : List Nat} {shsL : XSs} {hsL : List Mem} {rv : τ → Option Value} {hsR hs2 : τ → List Mem} (hx : XCS M.1 idx y bytes maxL ret ni) (hM : ∀ l t, o1 = some t → XMet l y bytes maxL ret d 0 0 av shsL hsL shsL (rv t, hsR t)) (hav : av.map (x_rv π) = As) (hst : stk = As.reverse ++ st) (hni : As.length = ni) (hd : decode M.2.1 pc = .ok (.invokestatic idx, 3)) (hdp : d + 1 ≤ x_dp M) (hcs : cs.1 ≤ x_mc M ∧ cs.2 ≤ x_ms M) (hmL : maxL ≤ 21) (hcat : (st.map fun v => v.category).sum ≤ 8) (hok : x_okc π shsL shs = true) (hsel : π.map (fun g => hs.getD g (fun _ _ => 0)) = hsL) (hml : ∀ t, (hsR t).length = π.length) (hpl : ∀ g ∈ π, g < hs.length) (hmg : ∀ t, x_mrg π hs (hsR t) = hs2 t) (hn : pc + 3 = n) (kk : ∀ t, XE B M Q n ls (((rv t).map (x_rv π)).toList ++ st) cs shs (hs2 t) k (f t)) : XE B M Q pc ls stk cs shs hs k (o1.bind f) := by
  subst hn
  obtain ⟨p, l, e, Rm, s, m, args, below, meth, c, D, cc, A, H0, ad0, shs0⟩ := B
  intro hO ad H locs lsA hP hD hS hA hL r hr
  cases ho1 : o1 with
  | none => rw [ho1] at hr; cases hr
  | some t =>
  rw [ho1] at hr
  have hfr : x_dp M ≤ Rm.frames := hO.2.2.2.2.2.2.2.2.2.2.1
  have hlo : 40 * x_dp M ≤ Rm.locals := hO.2.2.2.2.2.2.2.2.2.2.2.1
  have hcl2 : cs.1 ≤ Rm.cells ∧ cs.2 ≤ Rm.slots := ⟨Nat.le_trans hcs.1 hO.2.2.2.2.2.2.2.2.2.2.2.2.2.1, Nat.le_trans hcs.2 hO.2.2.2.2.2.2.2.2.2.2.2.2.2.2⟩
  have hcut := x_cut hok hsel hP hD
  have hcode := List.mem_filter.mp hx.2.2.2.1
  subst hst
  have hrun : va_Run p l e Rm s m args below meth c H locs cs.1 cs.2 0 0 (F0 m pc lsA ((As.reverse ++ st).map (x_cv ad))) (st.map (x_cv ad)) (XQ D cc (va_A (x_w cc (fun k => ad (x_rk π k)) shsL hsL) H.size) (fun k => ad (x_rk π k)) shsL shsL (rv t, hsR t) (As.map (x_cv ad)).toArray) (va_A (x_w cc (fun k => ad (x_rk π k)) shsL hsL) H.size) := by
    have hav2 : av.map (x_cv (fun k => ad (x_rk π k))) = (As.map (x_cv ad)) := by
      rw [show av.map (x_cv (fun k => ad (x_rk π k))) = (av.map (x_rv π)).map (x_cv ad) from by rw [List.map_map]; exact List.map_congr_left (fun v _ => (x_cv_rv ad π v).symm), hav] <;> rfl
    have hB : ∀ U : State, U.heap = H → s.WarmedH U.vm → va_Pc (av.map (x_cv (fun k => ad (x_rk π k)))) (fun U => U.heap.size = H.size ∧ va_P D vwCl (x_w cc (fun k => ad (x_rk π k)) shsL hsL) U.heap ∧ va_K D vwCl (x_tys cc) U ∧ va_D (fun _ => True) (x_w cc (fun k => ad (x_rk π k)) shsL hsL)) (As.map (x_cv ad)).toArray U := fun U hU hW => ⟨by rw [hav2], by rw [hU], by rw [hU]; exact hcut.1, va_K.moved hW.alike hO.2.2.2.2.2.1, hcut.2.1.weaken (fun _ _ _ _ => trivial)⟩
    have hzero : cs.1 + 0 ≤ Rm.cells ∧ cs.2 + 0 ≤ Rm.slots := ⟨hcl2.1, hcl2.2⟩
    exact va_runS (As := As.map (x_cv ad)) (n := ni) ⟨hO.1, hO.2.1, hO.2.2.1, hO.2.2.2.1, hO.2.2.2.2.1⟩ (hM l t ho1 D cc (fun k => ad (x_rk π k)) H.size) (va_cwS ni hO.2.2.2.2.1 (goodIn_tbl (fun w hw => by
        unfold va_wsS at hw
        simp only [List.cons_append, List.nil_append, List.mem_cons] at hw
        rcases hw with rfl | rfl | rfl | rfl | hw
        · exact hx.1
        · exact hx.2.1
        · exact hx.2.2.1
        · exact hx.2.2.2.1
        · exact hw)) rfl rfl rfl hx.2.2.2.2 ⟨by show d + 1 ≤ Rm.frames; omega, by show 8 + (maxL + 11) + 40 * d ≤ Rm.locals; omega⟩) ⟨x_blind, hB⟩ rfl (by rw [List.length_map]; exact hni) hL.size (by
        show ((As.reverse ++ st).map (x_cv ad)) = _
        rw [List.map_append, List.map_reverse]) (lv_room (by rw [x_cat_map]; exact hcat)) hd hzero
  refine x_after hrun hok hsel (hml t) hpl hP hD hS hO.2.2.2.2.2.2.1 (fun H1 locs1 g1 g3 => ?_)
  have g1' : va_P D vwCl (x_w cc ad shs (x_mrg π hs (hsR t))) H1 := g1
  rw [hmg t] at g1'
  have := kk t hO ad H1 locs1 lsA g1' (x_D_any hD) g3 hA hL r hr
  rw [List.map_append] at this
  exact this
theorem XE_ireturn {α : Type} {B : XB} {M : XM} {pc : Nat} {ls : XLs} {mc ms c0 s0 : Nat} {shs : XSs} {hs : List Mem} {k : α → Option XR} {t : α} {v : Int32} (hm : M.2.2.2.1 = some .int) (hd : decode M.2.1 pc = .ok (.ireturn, 1)) (hk : k t = some ((some (.int v)), hs)) (hc : c0 ≤ mc) (hs0 : s0 ≤ ms) : XE B M (XQm B mc ms shs) pc ls [.int v] (c0, s0) shs hs k (some t) := by
  obtain ⟨p, l, e, Rm, s, m, args, below, meth, c, D, cc, A, H0, ad0, shs0⟩ := B
  intro hO ad H locs lsA hP hD hS hA hL r hr
  have hr2 : k t = some r := hr
  rw [hk] at hr2
  cases hr2
  have hH0 : H0 = s.heap := hO.2.2.2.2.2.2.2.2.2.2.2.2.1
  subst hH0
  refine W.widen (k := mc) (n := ms) hc hs0 ?_
  exact W.iret (Qc := XQ D cc A ad0 shs0 shs ((some (.int v)), hs)) hO.1 hO.2.1 (hO.2.2.2.2.2.2.2.1.trans hm) (fun t ht hW => ⟨⟨ad, hA.2, rfl, by rw [ht]; exact hP, va_K.moved hW.alike hO.2.2.2.2.2.1, hD⟩, hS.F ht⟩) hS.2.2 hd hO.2.2.2.2.2.2.2.2.2.1
theorem XE_zreturn {α : Type} {B : XB} {M : XM} {pc : Nat} {ls : XLs} {mc ms c0 s0 : Nat} {shs : XSs} {hs : List Mem} {k : α → Option XR} {t : α} {v : Int32} (hz : isb v = true) (hm : M.2.2.2.1 = some .boolean) (hd : decode M.2.1 pc = .ok (.ireturn, 1)) (hk : k t = some ((some (.int v)), hs)) (hc : c0 ≤ mc) (hs0 : s0 ≤ ms) : XE B M (XQm B mc ms shs) pc ls [.int v] (c0, s0) shs hs k (some t) := by
  obtain ⟨p, l, e, Rm, s, m, args, below, meth, c, D, cc, A, H0, ad0, shs0⟩ := B
  intro hO ad H locs lsA hP hD hS hA hL r hr
  have hr2 : k t = some r := hr
  rw [hk] at hr2
  cases hr2
  have hH0 : H0 = s.heap := hO.2.2.2.2.2.2.2.2.2.2.2.2.1
  subst hH0
  refine W.widen (k := mc) (n := ms) hc hs0 ?_
  exact W.zret (Qc := XQ D cc A ad0 shs0 shs ((some (.int v)), hs)) hO.1 hO.2.1 (hO.2.2.2.2.2.2.2.1.trans hm) (narrow_isb hz) (fun t ht hW => ⟨⟨ad, hA.2, rfl, by rw [ht]; exact hP, va_K.moved hW.alike hO.2.2.2.2.2.1, hD⟩, hS.F ht⟩) hS.2.2 hd hO.2.2.2.2.2.2.2.2.2.1
theorem XE_lreturn {α : Type} {B : XB} {M : XM} {pc : Nat} {ls : XLs} {mc ms c0 s0 : Nat} {shs : XSs} {hs : List Mem} {k : α → Option XR} {t : α} {v : Int64} (hm : M.2.2.2.1 = some .long) (hd : decode M.2.1 pc = .ok (.lreturn, 1)) (hk : k t = some ((some (.long v)), hs)) (hc : c0 ≤ mc) (hs0 : s0 ≤ ms) : XE B M (XQm B mc ms shs) pc ls [.long v] (c0, s0) shs hs k (some t) := by
  obtain ⟨p, l, e, Rm, s, m, args, below, meth, c, D, cc, A, H0, ad0, shs0⟩ := B
  intro hO ad H locs lsA hP hD hS hA hL r hr
  have hr2 : k t = some r := hr
  rw [hk] at hr2
  cases hr2
  have hH0 : H0 = s.heap := hO.2.2.2.2.2.2.2.2.2.2.2.2.1
  subst hH0
  refine W.widen (k := mc) (n := ms) hc hs0 ?_
  exact W.lret (Qc := XQ D cc A ad0 shs0 shs ((some (.long v)), hs)) hO.1 hO.2.1 (hO.2.2.2.2.2.2.2.1.trans hm) (fun t ht hW => ⟨⟨ad, hA.2, rfl, by rw [ht]; exact hP, va_K.moved hW.alike hO.2.2.2.2.2.1, hD⟩, hS.F ht⟩) hS.2.2 hd hO.2.2.2.2.2.2.2.2.2.1
theorem XE_vreturn {α : Type} {B : XB} {M : XM} {pc : Nat} {ls : XLs} {mc ms c0 s0 : Nat} {shs : XSs} {hs : List Mem} {k : α → Option XR} {t : α}  (hm : M.2.2.2.1 = none) (hd : decode M.2.1 pc = .ok (.return_, 1)) (hk : k t = some (none, hs)) (hc : c0 ≤ mc) (hs0 : s0 ≤ ms) : XE B M (XQm B mc ms shs) pc ls [] (c0, s0) shs hs k (some t) := by
  obtain ⟨p, l, e, Rm, s, m, args, below, meth, c, D, cc, A, H0, ad0, shs0⟩ := B
  intro hO ad H locs lsA hP hD hS hA hL r hr
  have hr2 : k t = some r := hr
  rw [hk] at hr2
  cases hr2
  have hH0 : H0 = s.heap := hO.2.2.2.2.2.2.2.2.2.2.2.2.1
  subst hH0
  refine W.widen (k := mc) (n := ms) hc hs0 ?_
  exact W.vret (Qc := XQ D cc A ad0 shs0 shs (none, hs)) hO.1 hO.2.1 (hO.2.2.2.2.2.2.2.1.trans hm) (fun t ht hW => ⟨⟨ad, hA.2, rfl, by rw [ht]; exact hP, va_K.moved hW.alike hO.2.2.2.2.2.1, hD⟩, hS.F ht⟩) hS.2.2 hd hO.2.2.2.2.2.2.2.2.2.1
theorem XE_areturn {α : Type} {B : XB} {M : XM} {pc : Nat} {ls : XLs} {mc ms c0 s0 : Nat} {shs : XSs} {hs : List Mem} {k : α → Option XR} {t : α} {v : Nat} {rt : FieldType} (hrt : (∃ z, rt = .object z) ∨ ∃ t, rt = .array t) (hm : M.2.2.2.1 = some rt) (hd : decode M.2.1 pc = .ok (.areturn, 1)) (hk : k t = some ((some (.ref v)), hs)) (hc : c0 ≤ mc) (hs0 : s0 ≤ ms) : XE B M (XQm B mc ms shs) pc ls [.ref v] (c0, s0) shs hs k (some t) := by
  obtain ⟨p, l, e, Rm, s, m, args, below, meth, c, D, cc, A, H0, ad0, shs0⟩ := B
  intro hO ad H locs lsA hP hD hS hA hL r hr
  have hr2 : k t = some r := hr
  rw [hk] at hr2
  cases hr2
  have hH0 : H0 = s.heap := hO.2.2.2.2.2.2.2.2.2.2.2.2.1
  subst hH0
  refine W.widen (k := mc) (n := ms) hc hs0 ?_
  exact W.aret (Qc := XQ D cc A ad0 shs0 shs ((some (.ref v)), hs)) hO.1 hO.2.1 (hO.2.2.2.2.2.2.2.1.trans hm) hrt (Or.inr ⟨_, rfl⟩) (fun t ht hW => ⟨⟨ad, hA.2, rfl, by rw [ht]; exact hP, va_K.moved hW.alike hO.2.2.2.2.2.1, hD⟩, hS.F ht⟩) hS.2.2 hd hO.2.2.2.2.2.2.2.2.2.1
end
