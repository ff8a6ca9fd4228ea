section
-- ===== PART A: goes FIRST, ahead of the names: the tables' words, and 'selects' of the private methods out of them =====
/-- a private method of a class that the tables say can be made, by its rows of tables_1 -/
def lw_okq (q : MethodName × Nat) : Prop := (q.1.cls ≠ "java/lang/invoke/MethodHandle" ∧ q.1.cls ≠ "java/lang/invoke/VarHandle") ∧ Cond.instantiable q.1.cls q.2 ∈ tables_1 ∧ Cond.privateMethod q.1 ∈ tables_1 ∧ Cond.instanceMethod q.1 ∈ tables_1
theorem lw_p0 : lw_okq (⟨"EveryTwentyMinutes", "refused", "(I)I"⟩, 11) := ⟨⟨by decide +kernel, by decide +kernel⟩, List.mem_of_getElem? (i := 13) (by decide +kernel), List.mem_of_getElem? (i := 214) (by decide +kernel), List.mem_of_getElem? (i := 215) (by decide +kernel)⟩
theorem lw_p1 : lw_okq (⟨"EveryTwentyMinutes$Letters", "isDigit", "(I)Z"⟩, 2) := ⟨⟨by decide +kernel, by decide +kernel⟩, List.mem_of_getElem? (i := 116) (by decide +kernel), List.mem_of_getElem? (i := 233) (by decide +kernel), List.mem_of_getElem? (i := 234) (by decide +kernel)⟩
theorem lw_p2 : lw_okq (⟨"EveryTwentyMinutes", "asNow", "()LEveryTwentyMinutes$Hall;"⟩, 11) := ⟨⟨by decide +kernel, by decide +kernel⟩, List.mem_of_getElem? (i := 13) (by decide +kernel), List.mem_of_getElem? (i := 237) (by decide +kernel), List.mem_of_getElem? (i := 238) (by decide +kernel)⟩
theorem lw_p3 : lw_okq (⟨"EveryTwentyMinutes$Letters", "obeyed", "(LEveryTwentyMinutes$Hall;I)Z"⟩, 2) := ⟨⟨by decide +kernel, by decide +kernel⟩, List.mem_of_getElem? (i := 116) (by decide +kernel), List.mem_of_getElem? (i := 252) (by decide +kernel), List.mem_of_getElem? (i := 253) (by decide +kernel)⟩
theorem lw_p4 : lw_okq (⟨"EveryTwentyMinutes$Letters", "coupleComes", "(LEveryTwentyMinutes$Hall;I)Z"⟩, 2) := ⟨⟨by decide +kernel, by decide +kernel⟩, List.mem_of_getElem? (i := 116) (by decide +kernel), List.mem_of_getElem? (i := 256) (by decide +kernel), List.mem_of_getElem? (i := 257) (by decide +kernel)⟩
theorem lw_p5 : lw_okq (⟨"EveryTwentyMinutes$Letters", "number", "(II)I"⟩, 2) := ⟨⟨by decide +kernel, by decide +kernel⟩, List.mem_of_getElem? (i := 116) (by decide +kernel), List.mem_of_getElem? (i := 260) (by decide +kernel), List.mem_of_getElem? (i := 261) (by decide +kernel)⟩
theorem lw_p6 : lw_okq (⟨"EveryTwentyMinutes", "inMind", "()LEveryTwentyMinutes$Hall;"⟩, 11) := ⟨⟨by decide +kernel, by decide +kernel⟩, List.mem_of_getElem? (i := 13) (by decide +kernel), List.mem_of_getElem? (i := 424) (by decide +kernel), List.mem_of_getElem? (i := 425) (by decide +kernel)⟩
theorem lw_p7 : lw_okq (⟨"EveryTwentyMinutes", "oneIsContent", "(IIII)Z"⟩, 11) := ⟨⟨by decide +kernel, by decide +kernel⟩, List.mem_of_getElem? (i := 13) (by decide +kernel), List.mem_of_getElem? (i := 587) (by decide +kernel), List.mem_of_getElem? (i := 588) (by decide +kernel)⟩
theorem lw_p8 : lw_okq (⟨"EveryTwentyMinutes", "askedBy", "(IIII)LEveryTwentyMinutes$Hall;"⟩, 11) := ⟨⟨by decide +kernel, by decide +kernel⟩, List.mem_of_getElem? (i := 13) (by decide +kernel), List.mem_of_getElem? (i := 591) (by decide +kernel), List.mem_of_getElem? (i := 592) (by decide +kernel)⟩
theorem lw_p9 : lw_okq (⟨"EveryTwentyMinutes", "otherIsContent", "(IIII)Z"⟩, 11) := ⟨⟨by decide +kernel, by decide +kernel⟩, List.mem_of_getElem? (i := 13) (by decide +kernel), List.mem_of_getElem? (i := 595) (by decide +kernel), List.mem_of_getElem? (i := 596) (by decide +kernel)⟩
theorem lw_p10 : lw_okq (⟨"EveryTwentyMinutes", "kindsTold", "(I)I"⟩, 11) := ⟨⟨by decide +kernel, by decide +kernel⟩, List.mem_of_getElem? (i := 13) (by decide +kernel), List.mem_of_getElem? (i := 603) (by decide +kernel), List.mem_of_getElem? (i := 604) (by decide +kernel)⟩
theorem lw_p11 : lw_okq (⟨"EveryTwentyMinutes", "endsAsTold", "(LEveryTwentyMinutes$Hall;)Z"⟩, 11) := ⟨⟨by decide +kernel, by decide +kernel⟩, List.mem_of_getElem? (i := 13) (by decide +kernel), List.mem_of_getElem? (i := 607) (by decide +kernel), List.mem_of_getElem? (i := 608) (by decide +kernel)⟩
theorem lw_p12 : lw_okq (⟨"EveryTwentyMinutes", "figuresTold", "(I)I"⟩, 11) := ⟨⟨by decide +kernel, by decide +kernel⟩, List.mem_of_getElem? (i := 13) (by decide +kernel), List.mem_of_getElem? (i := 611) (by decide +kernel), List.mem_of_getElem? (i := 612) (by decide +kernel)⟩
theorem lw_p13 : lw_okq (⟨"EveryTwentyMinutes", "minutesTold", "(IZ)I"⟩, 11) := ⟨⟨by decide +kernel, by decide +kernel⟩, List.mem_of_getElem? (i := 13) (by decide +kernel), List.mem_of_getElem? (i := 615) (by decide +kernel), List.mem_of_getElem? (i := 616) (by decide +kernel)⟩
theorem lw_p14 : lw_okq (⟨"EveryTwentyMinutesModel", "refuse", "(I)I"⟩, 39) := ⟨⟨by decide +kernel, by decide +kernel⟩, List.mem_of_getElem? (i := 704) (by decide +kernel), List.mem_of_getElem? (i := 832) (by decide +kernel), List.mem_of_getElem? (i := 833) (by decide +kernel)⟩
theorem lw_p15 : lw_okq (⟨"EveryTwentyMinutesModel", "readStatement", "()V"⟩, 39) := ⟨⟨by decide +kernel, by decide +kernel⟩, List.mem_of_getElem? (i := 704) (by decide +kernel), List.mem_of_getElem? (i := 840) (by decide +kernel), List.mem_of_getElem? (i := 841) (by decide +kernel)⟩
def lw_privs_1 : List (MethodName × Nat) := [(⟨"EveryTwentyMinutes", "refused", "(I)I"⟩, 11), (⟨"EveryTwentyMinutes$Letters", "isDigit", "(I)Z"⟩, 2), (⟨"EveryTwentyMinutes", "asNow", "()LEveryTwentyMinutes$Hall;"⟩, 11), (⟨"EveryTwentyMinutes$Letters", "obeyed", "(LEveryTwentyMinutes$Hall;I)Z"⟩, 2), (⟨"EveryTwentyMinutes$Letters", "coupleComes", "(LEveryTwentyMinutes$Hall;I)Z"⟩, 2), (⟨"EveryTwentyMinutes$Letters", "number", "(II)I"⟩, 2), (⟨"EveryTwentyMinutes", "inMind", "()LEveryTwentyMinutes$Hall;"⟩, 11), (⟨"EveryTwentyMinutes", "oneIsContent", "(IIII)Z"⟩, 11), (⟨"EveryTwentyMinutes", "askedBy", "(IIII)LEveryTwentyMinutes$Hall;"⟩, 11), (⟨"EveryTwentyMinutes", "otherIsContent", "(IIII)Z"⟩, 11), (⟨"EveryTwentyMinutes", "kindsTold", "(I)I"⟩, 11), (⟨"EveryTwentyMinutes", "endsAsTold", "(LEveryTwentyMinutes$Hall;)Z"⟩, 11), (⟨"EveryTwentyMinutes", "figuresTold", "(I)I"⟩, 11), (⟨"EveryTwentyMinutes", "minutesTold", "(IZ)I"⟩, 11), (⟨"EveryTwentyMinutesModel", "refuse", "(I)I"⟩, 39), (⟨"EveryTwentyMinutesModel", "readStatement", "()V"⟩, 39)]
theorem lw_r1 : ∀ q ∈ lw_privs_1, lw_okq q := List.forall_mem_cons.mpr ⟨lw_p0, List.forall_mem_cons.mpr ⟨lw_p1, List.forall_mem_cons.mpr ⟨lw_p2, List.forall_mem_cons.mpr ⟨lw_p3, List.forall_mem_cons.mpr ⟨lw_p4, List.forall_mem_cons.mpr ⟨lw_p5, List.forall_mem_cons.mpr ⟨lw_p6, List.forall_mem_cons.mpr ⟨lw_p7, List.forall_mem_cons.mpr ⟨lw_p8, List.forall_mem_cons.mpr ⟨lw_p9, List.forall_mem_cons.mpr ⟨lw_p10, List.forall_mem_cons.mpr ⟨lw_p11, List.forall_mem_cons.mpr ⟨lw_p12, List.forall_mem_cons.mpr ⟨lw_p13, List.forall_mem_cons.mpr ⟨lw_p14, List.forall_mem_cons.mpr ⟨lw_p15, fun _ h => absurd h List.not_mem_nil⟩⟩⟩⟩⟩⟩⟩⟩⟩⟩⟩⟩⟩⟩⟩⟩
theorem lw_p16 : lw_okq (⟨"EveryTwentyMinutesModel", "here", "()I"⟩, 39) := ⟨⟨by decide +kernel, by decide +kernel⟩, List.mem_of_getElem? (i := 704) (by decide +kernel), List.mem_of_getElem? (i := 844) (by decide +kernel), List.mem_of_getElem? (i := 845) (by decide +kernel)⟩
theorem lw_p17 : lw_okq (⟨"EveryTwentyMinutesModel", "readDigits", "(I)I"⟩, 39) := ⟨⟨by decide +kernel, by decide +kernel⟩, List.mem_of_getElem? (i := 704) (by decide +kernel), List.mem_of_getElem? (i := 851) (by decide +kernel), List.mem_of_getElem? (i := 852) (by decide +kernel)⟩
theorem lw_p18 : lw_okq (⟨"EveryTwentyMinutesModel", "think", "()V"⟩, 39) := ⟨⟨by decide +kernel, by decide +kernel⟩, List.mem_of_getElem? (i := 704) (by decide +kernel), List.mem_of_getElem? (i := 860) (by decide +kernel), List.mem_of_getElem? (i := 861) (by decide +kernel)⟩
theorem lw_p19 : lw_okq (⟨"EveryTwentyMinutesModel", "carryAll", "([IZ)V"⟩, 39) := ⟨⟨by decide +kernel, by decide +kernel⟩, List.mem_of_getElem? (i := 704) (by decide +kernel), List.mem_of_getElem? (i := 864) (by decide +kernel), List.mem_of_getElem? (i := 865) (by decide +kernel)⟩
theorem lw_p20 : lw_okq (⟨"EveryTwentyMinutesModel", "carry", "(I)I"⟩, 39) := ⟨⟨by decide +kernel, by decide +kernel⟩, List.mem_of_getElem? (i := 704) (by decide +kernel), List.mem_of_getElem? (i := 868) (by decide +kernel), List.mem_of_getElem? (i := 869) (by decide +kernel)⟩
theorem lw_p21 : lw_okq (⟨"EveryTwentyMinutesModel", "comesTold", "(I)Z"⟩, 39) := ⟨⟨by decide +kernel, by decide +kernel⟩, List.mem_of_getElem? (i := 704) (by decide +kernel), List.mem_of_getElem? (i := 872) (by decide +kernel), List.mem_of_getElem? (i := 873) (by decide +kernel)⟩
theorem lw_p22 : lw_okq (⟨"EveryTwentyMinutesModel", "coupleComes", "(III)Z"⟩, 39) := ⟨⟨by decide +kernel, by decide +kernel⟩, List.mem_of_getElem? (i := 704) (by decide +kernel), List.mem_of_getElem? (i := 876) (by decide +kernel), List.mem_of_getElem? (i := 877) (by decide +kernel)⟩
theorem lw_p23 : lw_okq (⟨"EveryTwentyMinutesModel", "roomsBecome", "(I)V"⟩, 39) := ⟨⟨by decide +kernel, by decide +kernel⟩, List.mem_of_getElem? (i := 704) (by decide +kernel), List.mem_of_getElem? (i := 881) (by decide +kernel), List.mem_of_getElem? (i := 882) (by decide +kernel)⟩
theorem lw_p24 : lw_okq (⟨"EveryTwentyMinutesModel", "isCouple", "(I)Z"⟩, 39) := ⟨⟨by decide +kernel, by decide +kernel⟩, List.mem_of_getElem? (i := 704) (by decide +kernel), List.mem_of_getElem? (i := 885) (by decide +kernel), List.mem_of_getElem? (i := 886) (by decide +kernel)⟩
theorem lw_p25 : lw_okq (⟨"EveryTwentyMinutesModel", "putFirst", "(I)V"⟩, 39) := ⟨⟨by decide +kernel, by decide +kernel⟩, List.mem_of_getElem? (i := 704) (by decide +kernel), List.mem_of_getElem? (i := 889) (by decide +kernel), List.mem_of_getElem? (i := 890) (by decide +kernel)⟩
theorem lw_p26 : lw_okq (⟨"EveryTwentyMinutesModel", "placeOf", "(I)I"⟩, 39) := ⟨⟨by decide +kernel, by decide +kernel⟩, List.mem_of_getElem? (i := 704) (by decide +kernel), List.mem_of_getElem? (i := 893) (by decide +kernel), List.mem_of_getElem? (i := 894) (by decide +kernel)⟩
theorem lw_p27 : lw_okq (⟨"EveryTwentyMinutesModel", "wedsCome", "(I)Z"⟩, 39) := ⟨⟨by decide +kernel, by decide +kernel⟩, List.mem_of_getElem? (i := 704) (by decide +kernel), List.mem_of_getElem? (i := 897) (by decide +kernel), List.mem_of_getElem? (i := 898) (by decide +kernel)⟩
theorem lw_p28 : lw_okq (⟨"EveryTwentyMinutesModel", "wedOne", "(I)V"⟩, 39) := ⟨⟨by decide +kernel, by decide +kernel⟩, List.mem_of_getElem? (i := 704) (by decide +kernel), List.mem_of_getElem? (i := 902) (by decide +kernel), List.mem_of_getElem? (i := 903) (by decide +kernel)⟩
theorem lw_p29 : lw_okq (⟨"EveryTwentyMinutesModel", "firstOff", "()I"⟩, 39) := ⟨⟨by decide +kernel, by decide +kernel⟩, List.mem_of_getElem? (i := 704) (by decide +kernel), List.mem_of_getElem? (i := 906) (by decide +kernel), List.mem_of_getElem? (i := 907) (by decide +kernel)⟩
theorem lw_p30 : lw_okq (⟨"EveryTwentyMinutesModel", "readyOf", "(I)I"⟩, 39) := ⟨⟨by decide +kernel, by decide +kernel⟩, List.mem_of_getElem? (i := 704) (by decide +kernel), List.mem_of_getElem? (i := 910) (by decide +kernel), List.mem_of_getElem? (i := 911) (by decide +kernel)⟩
theorem lw_p31 : lw_okq (⟨"EveryTwentyMinutesModel", "restFor", "(I)V"⟩, 39) := ⟨⟨by decide +kernel, by decide +kernel⟩, List.mem_of_getElem? (i := 704) (by decide +kernel), List.mem_of_getElem? (i := 924) (by decide +kernel), List.mem_of_getElem? (i := 925) (by decide +kernel)⟩
def lw_privs_2 : List (MethodName × Nat) := [(⟨"EveryTwentyMinutesModel", "here", "()I"⟩, 39), (⟨"EveryTwentyMinutesModel", "readDigits", "(I)I"⟩, 39), (⟨"EveryTwentyMinutesModel", "think", "()V"⟩, 39), (⟨"EveryTwentyMinutesModel", "carryAll", "([IZ)V"⟩, 39), (⟨"EveryTwentyMinutesModel", "carry", "(I)I"⟩, 39), (⟨"EveryTwentyMinutesModel", "comesTold", "(I)Z"⟩, 39), (⟨"EveryTwentyMinutesModel", "coupleComes", "(III)Z"⟩, 39), (⟨"EveryTwentyMinutesModel", "roomsBecome", "(I)V"⟩, 39), (⟨"EveryTwentyMinutesModel", "isCouple", "(I)Z"⟩, 39), (⟨"EveryTwentyMinutesModel", "putFirst", "(I)V"⟩, 39), (⟨"EveryTwentyMinutesModel", "placeOf", "(I)I"⟩, 39), (⟨"EveryTwentyMinutesModel", "wedsCome", "(I)Z"⟩, 39), (⟨"EveryTwentyMinutesModel", "wedOne", "(I)V"⟩, 39), (⟨"EveryTwentyMinutesModel", "firstOff", "()I"⟩, 39), (⟨"EveryTwentyMinutesModel", "readyOf", "(I)I"⟩, 39), (⟨"EveryTwentyMinutesModel", "restFor", "(I)V"⟩, 39)]
theorem lw_r2 : ∀ q ∈ lw_privs_2, lw_okq q := List.forall_mem_cons.mpr ⟨lw_p16, List.forall_mem_cons.mpr ⟨lw_p17, List.forall_mem_cons.mpr ⟨lw_p18, List.forall_mem_cons.mpr ⟨lw_p19, List.forall_mem_cons.mpr ⟨lw_p20, List.forall_mem_cons.mpr ⟨lw_p21, List.forall_mem_cons.mpr ⟨lw_p22, List.forall_mem_cons.mpr ⟨lw_p23, List.forall_mem_cons.mpr ⟨lw_p24, List.forall_mem_cons.mpr ⟨lw_p25, List.forall_mem_cons.mpr ⟨lw_p26, List.forall_mem_cons.mpr ⟨lw_p27, List.forall_mem_cons.mpr ⟨lw_p28, List.forall_mem_cons.mpr ⟨lw_p29, List.forall_mem_cons.mpr ⟨lw_p30, List.forall_mem_cons.mpr ⟨lw_p31, fun _ h => absurd h List.not_mem_nil⟩⟩⟩⟩⟩⟩⟩⟩⟩⟩⟩⟩⟩⟩⟩⟩
theorem lw_p32 : lw_okq (⟨"EveryTwentyMinutesModel", "again", "()V"⟩, 39) := ⟨⟨by decide +kernel, by decide +kernel⟩, List.mem_of_getElem? (i := 704) (by decide +kernel), List.mem_of_getElem? (i := 928) (by decide +kernel), List.mem_of_getElem? (i := 929) (by decide +kernel)⟩
theorem lw_p33 : lw_okq (⟨"EveryTwentyMinutesModel", "guestsOf", "(I)I"⟩, 39) := ⟨⟨by decide +kernel, by decide +kernel⟩, List.mem_of_getElem? (i := 704) (by decide +kernel), List.mem_of_getElem? (i := 948) (by decide +kernel), List.mem_of_getElem? (i := 949) (by decide +kernel)⟩
theorem lw_p34 : lw_okq (⟨"EveryTwentyMinutesModel", "posesOf", "(I)I"⟩, 39) := ⟨⟨by decide +kernel, by decide +kernel⟩, List.mem_of_getElem? (i := 704) (by decide +kernel), List.mem_of_getElem? (i := 952) (by decide +kernel), List.mem_of_getElem? (i := 953) (by decide +kernel)⟩
theorem lw_p35 : lw_okq (⟨"EveryTwentyMinutesModel", "keepTurn", "()V"⟩, 39) := ⟨⟨by decide +kernel, by decide +kernel⟩, List.mem_of_getElem? (i := 704) (by decide +kernel), List.mem_of_getElem? (i := 980) (by decide +kernel), List.mem_of_getElem? (i := 981) (by decide +kernel)⟩
theorem lw_p36 : lw_okq (⟨"EveryTwentyMinutesModel", "wedAll", "()V"⟩, 39) := ⟨⟨by decide +kernel, by decide +kernel⟩, List.mem_of_getElem? (i := 704) (by decide +kernel), List.mem_of_getElem? (i := 1003) (by decide +kernel), List.mem_of_getElem? (i := 1004) (by decide +kernel)⟩
theorem lw_p37 : lw_okq (⟨"EveryTwentyMinutesModel", "lateOf", "(I)I"⟩, 39) := ⟨⟨by decide +kernel, by decide +kernel⟩, List.mem_of_getElem? (i := 704) (by decide +kernel), List.mem_of_getElem? (i := 1007) (by decide +kernel), List.mem_of_getElem? (i := 1008) (by decide +kernel)⟩
theorem lw_p38 : lw_okq (⟨"EveryTwentyMinutesModel", "allLate", "()I"⟩, 39) := ⟨⟨by decide +kernel, by decide +kernel⟩, List.mem_of_getElem? (i := 704) (by decide +kernel), List.mem_of_getElem? (i := 1020) (by decide +kernel), List.mem_of_getElem? (i := 1021) (by decide +kernel)⟩
theorem lw_p39 : lw_okq (⟨"EveryTwentyMinutesModel", "lastEnd", "()I"⟩, 39) := ⟨⟨by decide +kernel, by decide +kernel⟩, List.mem_of_getElem? (i := 704) (by decide +kernel), List.mem_of_getElem? (i := 1024) (by decide +kernel), List.mem_of_getElem? (i := 1025) (by decide +kernel)⟩
theorem lw_p40 : lw_okq (⟨"EveryTwentyMinutesModel", "meetMany", "()I"⟩, 39) := ⟨⟨by decide +kernel, by decide +kernel⟩, List.mem_of_getElem? (i := 704) (by decide +kernel), List.mem_of_getElem? (i := 1032) (by decide +kernel), List.mem_of_getElem? (i := 1033) (by decide +kernel)⟩
theorem lw_p41 : lw_okq (⟨"EveryTwentyMinutesModel", "meet", "(II)Z"⟩, 39) := ⟨⟨by decide +kernel, by decide +kernel⟩, List.mem_of_getElem? (i := 704) (by decide +kernel), List.mem_of_getElem? (i := 1036) (by decide +kernel), List.mem_of_getElem? (i := 1037) (by decide +kernel)⟩
theorem lw_p42 : lw_okq (⟨"EveryTwentyMinutesModel", "firstMet", "()I"⟩, 39) := ⟨⟨by decide +kernel, by decide +kernel⟩, List.mem_of_getElem? (i := 704) (by decide +kernel), List.mem_of_getElem? (i := 1044) (by decide +kernel), List.mem_of_getElem? (i := 1045) (by decide +kernel)⟩
theorem lw_p43 : lw_okq (⟨"EveryTwentyMinutesModel", "strayedOne", "()I"⟩, 39) := ⟨⟨by decide +kernel, by decide +kernel⟩, List.mem_of_getElem? (i := 704) (by decide +kernel), List.mem_of_getElem? (i := 1048) (by decide +kernel), List.mem_of_getElem? (i := 1049) (by decide +kernel)⟩
theorem lw_p44 : lw_okq (⟨"EveryTwentyMinutesModel", "laySorted", "()V"⟩, 39) := ⟨⟨by decide +kernel, by decide +kernel⟩, List.mem_of_getElem? (i := 704) (by decide +kernel), List.mem_of_getElem? (i := 1056) (by decide +kernel), List.mem_of_getElem? (i := 1057) (by decide +kernel)⟩
theorem lw_p45 : lw_okq (⟨"EveryTwentyMinutesModel", "layOrder", "(I)V"⟩, 39) := ⟨⟨by decide +kernel, by decide +kernel⟩, List.mem_of_getElem? (i := 704) (by decide +kernel), List.mem_of_getElem? (i := 1063) (by decide +kernel), List.mem_of_getElem? (i := 1064) (by decide +kernel)⟩
theorem lw_p46 : lw_okq (⟨"EveryTwentyMinutesModel", "lateNow", "()I"⟩, 39) := ⟨⟨by decide +kernel, by decide +kernel⟩, List.mem_of_getElem? (i := 704) (by decide +kernel), List.mem_of_getElem? (i := 1070) (by decide +kernel), List.mem_of_getElem? (i := 1071) (by decide +kernel)⟩
theorem lw_p47 : lw_okq (⟨"EveryTwentyMinutesModel", "pose", "()I"⟩, 39) := ⟨⟨by decide +kernel, by decide +kernel⟩, List.mem_of_getElem? (i := 704) (by decide +kernel), List.mem_of_getElem? (i := 1098) (by decide +kernel), List.mem_of_getElem? (i := 1099) (by decide +kernel)⟩
def lw_privs_3 : List (MethodName × Nat) := [(⟨"EveryTwentyMinutesModel", "again", "()V"⟩, 39), (⟨"EveryTwentyMinutesModel", "guestsOf", "(I)I"⟩, 39), (⟨"EveryTwentyMinutesModel", "posesOf", "(I)I"⟩, 39), (⟨"EveryTwentyMinutesModel", "keepTurn", "()V"⟩, 39), (⟨"EveryTwentyMinutesModel", "wedAll", "()V"⟩, 39), (⟨"EveryTwentyMinutesModel", "lateOf", "(I)I"⟩, 39), (⟨"EveryTwentyMinutesModel", "allLate", "()I"⟩, 39), (⟨"EveryTwentyMinutesModel", "lastEnd", "()I"⟩, 39), (⟨"EveryTwentyMinutesModel", "meetMany", "()I"⟩, 39), (⟨"EveryTwentyMinutesModel", "meet", "(II)Z"⟩, 39), (⟨"EveryTwentyMinutesModel", "firstMet", "()I"⟩, 39), (⟨"EveryTwentyMinutesModel", "strayedOne", "()I"⟩, 39), (⟨"EveryTwentyMinutesModel", "laySorted", "()V"⟩, 39), (⟨"EveryTwentyMinutesModel", "layOrder", "(I)V"⟩, 39), (⟨"EveryTwentyMinutesModel", "lateNow", "()I"⟩, 39), (⟨"EveryTwentyMinutesModel", "pose", "()I"⟩, 39)]
theorem lw_r3 : ∀ q ∈ lw_privs_3, lw_okq q := List.forall_mem_cons.mpr ⟨lw_p32, List.forall_mem_cons.mpr ⟨lw_p33, List.forall_mem_cons.mpr ⟨lw_p34, List.forall_mem_cons.mpr ⟨lw_p35, List.forall_mem_cons.mpr ⟨lw_p36, List.forall_mem_cons.mpr ⟨lw_p37, List.forall_mem_cons.mpr ⟨lw_p38, List.forall_mem_cons.mpr ⟨lw_p39, List.forall_mem_cons.mpr ⟨lw_p40, List.forall_mem_cons.mpr ⟨lw_p41, List.forall_mem_cons.mpr ⟨lw_p42, List.forall_mem_cons.mpr ⟨lw_p43, List.forall_mem_cons.mpr ⟨lw_p44, List.forall_mem_cons.mpr ⟨lw_p45, List.forall_mem_cons.mpr ⟨lw_p46, List.forall_mem_cons.mpr ⟨lw_p47, fun _ h => absurd h List.not_mem_nil⟩⟩⟩⟩⟩⟩⟩⟩⟩⟩⟩⟩⟩⟩⟩⟩
theorem lw_p48 : lw_okq (⟨"EveryTwentyMinutesModel", "nextPosing", "(I)I"⟩, 39) := ⟨⟨by decide +kernel, by decide +kernel⟩, List.mem_of_getElem? (i := 704) (by decide +kernel), List.mem_of_getElem? (i := 1102) (by decide +kernel), List.mem_of_getElem? (i := 1103) (by decide +kernel)⟩
theorem lw_p49 : lw_okq (⟨"EveryTwentyMinutesModel", "insideAt", "(I)I"⟩, 39) := ⟨⟨by decide +kernel, by decide +kernel⟩, List.mem_of_getElem? (i := 704) (by decide +kernel), List.mem_of_getElem? (i := 1114) (by decide +kernel), List.mem_of_getElem? (i := 1115) (by decide +kernel)⟩
theorem lw_p50 : lw_okq (⟨"EveryTwentyMinutesModel", "whenBy", "(II)I"⟩, 39) := ⟨⟨by decide +kernel, by decide +kernel⟩, List.mem_of_getElem? (i := 704) (by decide +kernel), List.mem_of_getElem? (i := 1147) (by decide +kernel), List.mem_of_getElem? (i := 1148) (by decide +kernel)⟩
theorem lw_p51 : lw_okq (⟨"EveryTwentyMinutesModel", "isRow", "()Z"⟩, 39) := ⟨⟨by decide +kernel, by decide +kernel⟩, List.mem_of_getElem? (i := 704) (by decide +kernel), List.mem_of_getElem? (i := 1151) (by decide +kernel), List.mem_of_getElem? (i := 1152) (by decide +kernel)⟩
theorem lw_p52 : lw_okq (⟨"EveryTwentyMinutesModel", "unwed", "()I"⟩, 39) := ⟨⟨by decide +kernel, by decide +kernel⟩, List.mem_of_getElem? (i := 704) (by decide +kernel), List.mem_of_getElem? (i := 1193) (by decide +kernel), List.mem_of_getElem? (i := 1194) (by decide +kernel)⟩
theorem lw_p53 : lw_okq (⟨"EveryTwentyMinutesModel", "drawBelow", "(I)I"⟩, 39) := ⟨⟨by decide +kernel, by decide +kernel⟩, List.mem_of_getElem? (i := 704) (by decide +kernel), List.mem_of_getElem? (i := 1213) (by decide +kernel), List.mem_of_getElem? (i := 1214) (by decide +kernel)⟩
def lw_privs_4 : List (MethodName × Nat) := [(⟨"EveryTwentyMinutesModel", "nextPosing", "(I)I"⟩, 39), (⟨"EveryTwentyMinutesModel", "insideAt", "(I)I"⟩, 39), (⟨"EveryTwentyMinutesModel", "whenBy", "(II)I"⟩, 39), (⟨"EveryTwentyMinutesModel", "isRow", "()Z"⟩, 39), (⟨"EveryTwentyMinutesModel", "unwed", "()I"⟩, 39), (⟨"EveryTwentyMinutesModel", "drawBelow", "(I)I"⟩, 39)]
theorem lw_r4 : ∀ q ∈ lw_privs_4, lw_okq q := List.forall_mem_cons.mpr ⟨lw_p48, List.forall_mem_cons.mpr ⟨lw_p49, List.forall_mem_cons.mpr ⟨lw_p50, List.forall_mem_cons.mpr ⟨lw_p51, List.forall_mem_cons.mpr ⟨lw_p52, List.forall_mem_cons.mpr ⟨lw_p53, fun _ h => absurd h List.not_mem_nil⟩⟩⟩⟩⟩⟩
def lw_privs : List (MethodName × Nat) := lw_privs_1 ++ (lw_privs_2 ++ (lw_privs_3 ++ (lw_privs_4)))
def lw_tbl : List Cond := k2_sels lw_privs ++ tables_1
theorem lw_privs_ok : ∀ q ∈ lw_privs, lw_okq q := by
  show ∀ q ∈ lw_privs_1 ++ (lw_privs_2 ++ (lw_privs_3 ++ (lw_privs_4))), lw_okq q
  exact List.forall_mem_append.mpr ⟨lw_r1, List.forall_mem_append.mpr ⟨lw_r2, List.forall_mem_append.mpr ⟨lw_r3, lw_r4⟩⟩⟩
-- ===== end of PART A; then your names; then what follows =====
/-! names: classes, fields, methods -/
def RX0 : String := "EveryTwentyMinutes$BestOrder"
def TX0 : u_T := fun k => match k with
  | 0 => ("EveryTwentyMinutes$BestOrder", "hall", "LEveryTwentyMinutes$Hall;", true)
  | 1 => ("EveryTwentyMinutes$BestOrder", "path", "[I", true)
  | 2 => ("EveryTwentyMinutes$BestOrder", "order", "[I", true)
  | 3 => ("EveryTwentyMinutes$BestOrder", "many", "I", false)
  | _ => ("EveryTwentyMinutes$BestOrder", "late", "I", false)
def tyX0 : Nat → FieldType := fun k => match k with
  | 0 => .object "EveryTwentyMinutes$Hall"
  | 1 => .array .int
  | 2 => .array .int
  | 3 => .int
  | _ => .int
abbrev wsX00 : List Cond := u_ws RX0 TX0 5
theorem nmX0 : ∀ a, a < 5 → ∀ b, b < 5 → a ≠ b → (TX0 a).2.1 ≠ (TX0 b).2.1 := by decide +kernel
theorem tyX0_ok : ∀ k, k < 5 → parseFieldDescriptor (TX0 k).2.2.1 = some (tyX0 k) := by decide +kernel
abbrev cX0_init : ByteArray := prog_2_method_1_code
def yX0_init : MethodName := ⟨RX0, "<init>", "()V"⟩
abbrev cX0_find : ByteArray := prog_2_method_2_code
def yX0_find : MethodName := ⟨RX0, "find", "(LEveryTwentyMinutes$Hall;)V"⟩
abbrev cX0_seek : ByteArray := prog_2_method_3_code
def yX0_seek : MethodName := ⟨RX0, "seek", "(LEveryTwentyMinutes$BestOrder;III)V"⟩
def RX1 : String := "EveryTwentyMinutes$Fountain"
def TX1 : u_T := fun k => match k with
  | 0 => ("EveryTwentyMinutes$Fountain", "begins", "[I", true)
  | 1 => ("EveryTwentyMinutes$Fountain", "longest", "I", false)
  | _ => ("EveryTwentyMinutes$Fountain", "done", "I", false)
def tyX1 : Nat → FieldType := fun k => match k with
  | 0 => .array .int
  | 1 => .int
  | _ => .int
abbrev wsX10 : List Cond := u_ws RX1 TX1 3
theorem nmX1 : ∀ a, a < 3 → ∀ b, b < 3 → a ≠ b → (TX1 a).2.1 ≠ (TX1 b).2.1 := by decide +kernel
theorem tyX1_ok : ∀ k, k < 3 → parseFieldDescriptor (TX1 k).2.2.1 = some (tyX1 k) := by decide +kernel
abbrev cX1_init : ByteArray := prog_3_method_1_code
def yX1_init : MethodName := ⟨RX1, "<init>", "()V"⟩
abbrev cX1_take : ByteArray := prog_3_method_2_code
def yX1_take : MethodName := ⟨RX1, "take", "(LEveryTwentyMinutes$Hall;)V"⟩
abbrev cX1_next : ByteArray := prog_3_method_3_code
def yX1_next : MethodName := ⟨RX1, "next", "(LEveryTwentyMinutes$Hall;I)I"⟩
def RX2 : String := "EveryTwentyMinutes$Hall"
def TX2 : u_T := fun k => match k with
  | 0 => ("EveryTwentyMinutes$Hall", "couples", "I", false)
  | 1 => ("EveryTwentyMinutes$Hall", "kind", "[I", true)
  | 2 => ("EveryTwentyMinutes$Hall", "figure", "[I", true)
  | 3 => ("EveryTwentyMinutes$Hall", "at", "[I", true)
  | 4 => ("EveryTwentyMinutes$Hall", "wed", "I", false)
  | 5 => ("EveryTwentyMinutes$Hall", "begins", "[I", true)
  | 6 => ("EveryTwentyMinutes$Hall", "ends", "[I", true)
  | 7 => ("EveryTwentyMinutes$Hall", "roomOf", "[I", true)
  | 8 => ("EveryTwentyMinutes$Hall", "waiting", "I", false)
  | 9 => ("EveryTwentyMinutes$Hall", "order", "[I", true)
  | 10 => ("EveryTwentyMinutes$Hall", "rooms", "I", false)
  | 11 => ("EveryTwentyMinutes$Hall", "freeFrom", "[I", true)
  | 12 => ("EveryTwentyMinutes$Hall", "tired", "I", false)
  | _ => ("EveryTwentyMinutes$Hall", "slack", "I", false)
def tyX2 : Nat → FieldType := fun k => match k with
  | 0 => .int
  | 1 => .array .int
  | 2 => .array .int
  | 3 => .array .int
  | 4 => .int
  | 5 => .array .int
  | 6 => .array .int
  | 7 => .array .int
  | 8 => .int
  | 9 => .array .int
  | 10 => .int
  | 11 => .array .int
  | 12 => .int
  | _ => .int
abbrev wsX20 : List Cond := u_ws RX2 TX2 14
theorem nmX2 : ∀ a, a < 14 → ∀ b, b < 14 → a ≠ b → (TX2 a).2.1 ≠ (TX2 b).2.1 := by decide +kernel
theorem tyX2_ok : ∀ k, k < 14 → parseFieldDescriptor (TX2 k).2.2.1 = some (tyX2 k) := by decide +kernel
abbrev cX2_init : ByteArray := prog_4_method_1_code
def yX2_init : MethodName := ⟨RX2, "<init>", "()V"⟩
abbrev cX2_become : ByteArray := prog_4_method_2_code
def yX2_become : MethodName := ⟨RX2, "become", "(LEveryTwentyMinutes$Hall;)V"⟩
abbrev cX2_has : ByteArray := prog_4_method_3_code
def yX2_has : MethodName := ⟨RX2, "has", "(I)Z"⟩
abbrev cX2_isFull : ByteArray := prog_4_method_4_code
def yX2_isFull : MethodName := ⟨RX2, "isFull", "()Z"⟩
abbrev cX2_isWed : ByteArray := prog_4_method_5_code
def yX2_isWed : MethodName := ⟨RX2, "isWed", "(I)Z"⟩
abbrev cX2_lastsOf : ByteArray := prog_4_method_6_code
def yX2_lastsOf : MethodName := ⟨RX2, "lastsOf", "(I)I"⟩
abbrev cX2_readyOf : ByteArray := prog_4_method_7_code
def yX2_readyOf : MethodName := ⟨RX2, "readyOf", "(I)I"⟩
abbrev cX2_guestsOf : ByteArray := prog_4_method_8_code
def yX2_guestsOf : MethodName := ⟨RX2, "guestsOf", "(I)I"⟩
abbrev cX2_add : ByteArray := prog_4_method_9_code
def yX2_add : MethodName := ⟨RX2, "add", "(III)V"⟩
abbrev cX2_openRooms : ByteArray := prog_4_method_10_code
def yX2_openRooms : MethodName := ⟨RX2, "openRooms", "(I)V"⟩
abbrev cX2_placeOf : ByteArray := prog_4_method_11_code
def yX2_placeOf : MethodName := ⟨RX2, "placeOf", "(I)I"⟩
abbrev cX2_putFirst : ByteArray := prog_4_method_12_code
def yX2_putFirst : MethodName := ⟨RX2, "putFirst", "(I)V"⟩
abbrev cX2_changePlaces : ByteArray := prog_4_method_13_code
def yX2_changePlaces : MethodName := ⟨RX2, "changePlaces", "(II)V"⟩
abbrev cX2_restClerk : ByteArray := prog_4_method_14_code
def yX2_restClerk : MethodName := ⟨RX2, "restClerk", "(I)V"⟩
abbrev cX2_wedAll : ByteArray := prog_4_method_15_code
def yX2_wedAll : MethodName := ⟨RX2, "wedAll", "()V"⟩
abbrev cX2_wedSome : ByteArray := prog_4_method_16_code
def yX2_wedSome : MethodName := ⟨RX2, "wedSome", "(I)V"⟩
abbrev cX2_wedFirst : ByteArray := prog_4_method_17_code
def yX2_wedFirst : MethodName := ⟨RX2, "wedFirst", "(I)V"⟩
abbrev cX2_hold : ByteArray := prog_4_method_18_code
def yX2_hold : MethodName := ⟨RX2, "hold", "(II)V"⟩
abbrev cX2_lateOf : ByteArray := prog_4_method_19_code
def yX2_lateOf : MethodName := ⟨RX2, "lateOf", "(I)I"⟩
abbrev cX2_waitOf : ByteArray := prog_4_method_20_code
def yX2_waitOf : MethodName := ⟨RX2, "waitOf", "(I)I"⟩
abbrev cX2_allLate : ByteArray := prog_4_method_21_code
def yX2_allLate : MethodName := ⟨RX2, "allLate", "()I"⟩
abbrev cX2_lateOfWed : ByteArray := prog_4_method_22_code
def yX2_lateOfWed : MethodName := ⟨RX2, "lateOfWed", "()I"⟩
abbrev cX2_last : ByteArray := prog_4_method_23_code
def yX2_last : MethodName := ⟨RX2, "last", "()I"⟩
abbrev cX2_meet : ByteArray := prog_4_method_24_code
def yX2_meet : MethodName := ⟨RX2, "meet", "(II)Z"⟩
abbrev cX2_meetings : ByteArray := prog_4_method_25_code
def yX2_meetings : MethodName := ⟨RX2, "meetings", "()I"⟩
abbrev cX2_firstMeeting : ByteArray := prog_4_method_26_code
def yX2_firstMeeting : MethodName := ⟨RX2, "firstMeeting", "()I"⟩
abbrev cX2_strayed : ByteArray := prog_4_method_27_code
def yX2_strayed : MethodName := ⟨RX2, "strayed", "()I"⟩
abbrev cX2_guestsAt : ByteArray := prog_4_method_28_code
def yX2_guestsAt : MethodName := ⟨RX2, "guestsAt", "(I)I"⟩
abbrev cX2_longestOne : ByteArray := prog_4_method_29_code
def yX2_longestOne : MethodName := ⟨RX2, "longestOne", "()I"⟩
abbrev cX2_dearest : ByteArray := prog_4_method_30_code
def yX2_dearest : MethodName := ⟨RX2, "dearest", "()I"⟩
abbrev cX2_bunched : ByteArray := prog_4_method_31_code
def yX2_bunched : MethodName := ⟨RX2, "bunched", "()I"⟩
def RX3 : String := "EveryTwentyMinutes$Kinds"
def TX3 : u_T := fun k => match k with
  | _ => ("", "", "", false)
def tyX3 : Nat → FieldType := fun k => match k with
  | _ => .int
abbrev wsX30 : List Cond := u_ws RX3 TX3 0
theorem nmX3 : ∀ a, a < 0 → ∀ b, b < 0 → a ≠ b → (TX3 a).2.1 ≠ (TX3 b).2.1 := by decide +kernel
theorem tyX3_ok : ∀ k, k < 0 → parseFieldDescriptor (TX3 k).2.2.1 = some (tyX3 k) := by decide +kernel
abbrev cX3_isOne : ByteArray := prog_5_method_2_code
def yX3_isOne : MethodName := ⟨RX3, "isOne", "(I)Z"⟩
abbrev cX3_lasts : ByteArray := prog_5_method_3_code
def yX3_lasts : MethodName := ⟨RX3, "lasts", "(II)I"⟩
abbrev cX3_ready : ByteArray := prog_5_method_4_code
def yX3_ready : MethodName := ⟨RX3, "ready", "(III)I"⟩
abbrev cX3_guests : ByteArray := prog_5_method_5_code
def yX3_guests : MethodName := ⟨RX3, "guests", "(II)I"⟩
abbrev cX3_poses : ByteArray := prog_5_method_6_code
def yX3_poses : MethodName := ⟨RX3, "poses", "(II)I"⟩
def RX4 : String := "EveryTwentyMinutes$Letters"
def TX4 : u_T := fun k => match k with
  | 0 => ("EveryTwentyMinutes$Letters", "letter", "[I", true)
  | _ => ("EveryTwentyMinutes$Letters", "many", "I", false)
def tyX4 : Nat → FieldType := fun k => match k with
  | 0 => .array .int
  | _ => .int
abbrev wsX40 : List Cond := u_ws RX4 TX4 2
theorem nmX4 : ∀ a, a < 2 → ∀ b, b < 2 → a ≠ b → (TX4 a).2.1 ≠ (TX4 b).2.1 := by decide +kernel
theorem tyX4_ok : ∀ k, k < 2 → parseFieldDescriptor (TX4 k).2.2.1 = some (tyX4 k) := by decide +kernel
abbrev cX4_init : ByteArray := prog_6_method_1_code
def yX4_init : MethodName := ⟨RX4, "<init>", "()V"⟩
abbrev cX4_take : ByteArray := prog_6_method_2_code
def yX4_take : MethodName := ⟨RX4, "take", "(I)Z"⟩
abbrev cX4_digitsBehind : ByteArray := prog_6_method_3_code
def yX4_digitsBehind : MethodName := ⟨RX4, "digitsBehind", "(I)I"⟩
abbrev cX4_isDigit : ByteArray := prog_6_method_4_code
def yX4_isDigit : MethodName := ⟨RX4, "isDigit", "(I)Z"⟩
abbrev cX4_faultyPlace : ByteArray := prog_6_method_5_code
def yX4_faultyPlace : MethodName := ⟨RX4, "faultyPlace", "()I"⟩
abbrev cX4_tellTo : ByteArray := prog_6_method_6_code
def yX4_tellTo : MethodName := ⟨RX4, "tellTo", "(LEveryTwentyMinutes$Hall;)I"⟩
abbrev cX4_number : ByteArray := prog_6_method_7_code
def yX4_number : MethodName := ⟨RX4, "number", "(II)I"⟩
abbrev cX4_obeyed : ByteArray := prog_6_method_8_code
def yX4_obeyed : MethodName := ⟨RX4, "obeyed", "(LEveryTwentyMinutes$Hall;I)Z"⟩
abbrev cX4_coupleComes : ByteArray := prog_6_method_9_code
def yX4_coupleComes : MethodName := ⟨RX4, "coupleComes", "(LEveryTwentyMinutes$Hall;I)Z"⟩
abbrev cX4_roomsOpened : ByteArray := prog_6_method_10_code
def yX4_roomsOpened : MethodName := ⟨RX4, "roomsOpened", "(LEveryTwentyMinutes$Hall;I)Z"⟩
abbrev cX4_putFirst : ByteArray := prog_6_method_11_code
def yX4_putFirst : MethodName := ⟨RX4, "putFirst", "(LEveryTwentyMinutes$Hall;I)Z"⟩
abbrev cX4_someWed : ByteArray := prog_6_method_12_code
def yX4_someWed : MethodName := ⟨RX4, "someWed", "(LEveryTwentyMinutes$Hall;I)Z"⟩
abbrev cX4_clerkRests : ByteArray := prog_6_method_13_code
def yX4_clerkRests : MethodName := ⟨RX4, "clerkRests", "(LEveryTwentyMinutes$Hall;I)Z"⟩
def RX5 : String := "EveryTwentyMinutes$Past"
def TX5 : u_T := fun k => match k with
  | 0 => ("EveryTwentyMinutes$Past", "kept", "[LEveryTwentyMinutes$Hall;", true)
  | 1 => ("EveryTwentyMinutes$Past", "oldest", "I", false)
  | _ => ("EveryTwentyMinutes$Past", "many", "I", false)
def tyX5 : Nat → FieldType := fun k => match k with
  | 0 => .array (.object "EveryTwentyMinutes$Hall")
  | 1 => .int
  | _ => .int
abbrev wsX50 : List Cond := u_ws RX5 TX5 3
theorem nmX5 : ∀ a, a < 3 → ∀ b, b < 3 → a ≠ b → (TX5 a).2.1 ≠ (TX5 b).2.1 := by decide +kernel
theorem tyX5_ok : ∀ k, k < 3 → parseFieldDescriptor (TX5 k).2.2.1 = some (tyX5 k) := by decide +kernel
abbrev cX5_init : ByteArray := prog_7_method_1_code
def yX5_init : MethodName := ⟨RX5, "<init>", "()V"⟩
abbrev cX5_keep : ByteArray := prog_7_method_2_code
def yX5_keep : MethodName := ⟨RX5, "keep", "(LEveryTwentyMinutes$Hall;)V"⟩
abbrev cX5_giveBack : ByteArray := prog_7_method_3_code
def yX5_giveBack : MethodName := ⟨RX5, "giveBack", "(LEveryTwentyMinutes$Hall;)Z"⟩
abbrev cX5_forget : ByteArray := prog_7_method_4_code
def yX5_forget : MethodName := ⟨RX5, "forget", "()V"⟩
def RX6 : String := "EveryTwentyMinutes"
def TX6 : u_T := fun k => match k with
  | 0 => ("EveryTwentyMinutes", "now", "LEveryTwentyMinutes$Hall;", true)
  | 1 => ("EveryTwentyMinutes", "trial", "LEveryTwentyMinutes$Hall;", true)
  | 2 => ("EveryTwentyMinutes", "imaged", "LEveryTwentyMinutes$Hall;", true)
  | 3 => ("EveryTwentyMinutes", "hasImage", "Z", false)
  | 4 => ("EveryTwentyMinutes", "past", "LEveryTwentyMinutes$Past;", true)
  | 5 => ("EveryTwentyMinutes", "letters", "LEveryTwentyMinutes$Letters;", true)
  | 6 => ("EveryTwentyMinutes", "bestOrder", "LEveryTwentyMinutes$BestOrder;", true)
  | 7 => ("EveryTwentyMinutes", "turns", "LEveryTwentyMinutes$Fountain;", true)
  | 8 => ("EveryTwentyMinutes", "told", "[I", true)
  | 9 => ("EveryTwentyMinutes", "toldMany", "I", false)
  | _ => ("EveryTwentyMinutes", "refusals", "[I", true)
def tyX6 : Nat → FieldType := fun k => match k with
  | 0 => .object "EveryTwentyMinutes$Hall"
  | 1 => .object "EveryTwentyMinutes$Hall"
  | 2 => .object "EveryTwentyMinutes$Hall"
  | 3 => .boolean
  | 4 => .object "EveryTwentyMinutes$Past"
  | 5 => .object "EveryTwentyMinutes$Letters"
  | 6 => .object "EveryTwentyMinutes$BestOrder"
  | 7 => .object "EveryTwentyMinutes$Fountain"
  | 8 => .array .int
  | 9 => .int
  | _ => .array .int
abbrev wsX60 : List Cond := u_ws RX6 TX6 11
theorem nmX6 : ∀ a, a < 11 → ∀ b, b < 11 → a ≠ b → (TX6 a).2.1 ≠ (TX6 b).2.1 := by decide +kernel
theorem tyX6_ok : ∀ k, k < 11 → parseFieldDescriptor (TX6 k).2.2.1 = some (tyX6 k) := by decide +kernel
abbrev cX6_init : ByteArray := prog_1_method_1_code
def yX6_init : MethodName := ⟨RX6, "<init>", "()V"⟩
abbrev cX6_feed : ByteArray := prog_1_method_2_code
def yX6_feed : MethodName := ⟨RX6, "feed", "(I)I"⟩
abbrev cX6_hall : ByteArray := prog_1_method_3_code
def yX6_hall : MethodName := ⟨RX6, "hall", "()I"⟩
abbrev cX6_coupleOf : ByteArray := prog_1_method_4_code
def yX6_coupleOf : MethodName := ⟨RX6, "coupleOf", "(II)I"⟩
abbrev cX6_order : ByteArray := prog_1_method_5_code
def yX6_order : MethodName := ⟨RX6, "order", "(I)I"⟩
abbrev cX6_free : ByteArray := prog_1_method_6_code
def yX6_free : MethodName := ⟨RX6, "free", "(I)I"⟩
abbrev cX6_couple : ByteArray := prog_1_method_7_code
def yX6_couple : MethodName := ⟨RX6, "couple", "(III)I"⟩
abbrev cX6_rooms : ByteArray := prog_1_method_8_code
def yX6_rooms : MethodName := ⟨RX6, "rooms", "(I)I"⟩
abbrev cX6_weds : ByteArray := prog_1_method_9_code
def yX6_weds : MethodName := ⟨RX6, "weds", "(I)I"⟩
abbrev cX6_pulls : ByteArray := prog_1_method_10_code
def yX6_pulls : MethodName := ⟨RX6, "pulls", "(I)I"⟩
abbrev cX6_slack : ByteArray := prog_1_method_11_code
def yX6_slack : MethodName := ⟨RX6, "slack", "(I)I"⟩
abbrev cX6_rests : ByteArray := prog_1_method_12_code
def yX6_rests : MethodName := ⟨RX6, "rests", "(I)I"⟩
abbrev cX6_back : ByteArray := prog_1_method_13_code
def yX6_back : MethodName := ⟨RX6, "back", "()I"⟩
abbrev cX6_when : ByteArray := prog_1_method_14_code
def yX6_when : MethodName := ⟨RX6, "when", "(II)I"⟩
abbrev cX6_waits : ByteArray := prog_1_method_15_code
def yX6_waits : MethodName := ⟨RX6, "waits", "(I)I"⟩
abbrev cX6_all : ByteArray := prog_1_method_16_code
def yX6_all : MethodName := ⟨RX6, "all", "(I)I"⟩
abbrev cX6_met : ByteArray := prog_1_method_17_code
def yX6_met : MethodName := ⟨RX6, "met", "(I)I"⟩
abbrev cX6_best : ByteArray := prog_1_method_18_code
def yX6_best : MethodName := ⟨RX6, "best", "(I)I"⟩
abbrev cX6_pull : ByteArray := prog_1_method_19_code
def yX6_pull : MethodName := ⟨RX6, "pull", "()I"⟩
abbrev cX6_bestSlack : ByteArray := prog_1_method_20_code
def yX6_bestSlack : MethodName := ⟨RX6, "bestSlack", "(I)I"⟩
abbrev cX6_rest : ByteArray := prog_1_method_21_code
def yX6_rest : MethodName := ⟨RX6, "rest", "()I"⟩
abbrev cX6_saved : ByteArray := prog_1_method_22_code
def yX6_saved : MethodName := ⟨RX6, "saved", "()I"⟩
abbrev cX6_can : ByteArray := prog_1_method_23_code
def yX6_can : MethodName := ⟨RX6, "can", "(III)I"⟩
abbrev cX6_fountain : ByteArray := prog_1_method_24_code
def yX6_fountain : MethodName := ⟨RX6, "fountain", "(I)I"⟩
abbrev cX6_fountains : ByteArray := prog_1_method_25_code
def yX6_fountains : MethodName := ⟨RX6, "fountains", "(I)I"⟩
abbrev cX6_inside : ByteArray := prog_1_method_26_code
def yX6_inside : MethodName := ⟨RX6, "inside", "(I)I"⟩
abbrev cX6_crowded : ByteArray := prog_1_method_27_code
def yX6_crowded : MethodName := ⟨RX6, "crowded", "()I"⟩
abbrev cX6_price : ByteArray := prog_1_method_28_code
def yX6_price : MethodName := ⟨RX6, "price", "(I)I"⟩
abbrev cX6_odds : ByteArray := prog_1_method_29_code
def yX6_odds : MethodName := ⟨RX6, "odds", "(IIII)J"⟩
abbrev cX6_two : ByteArray := prog_1_method_30_code
def yX6_two : MethodName := ⟨RX6, "two", "(II)I"⟩
abbrev cX6_whatWas : ByteArray := prog_1_method_31_code
def yX6_whatWas : MethodName := ⟨RX6, "whatWas", "(II)I"⟩
abbrev cX6_longest : ByteArray := prog_1_method_32_code
def yX6_longest : MethodName := ⟨RX6, "longest", "(I)I"⟩
abbrev cX6_mean : ByteArray := prog_1_method_33_code
def yX6_mean : MethodName := ⟨RX6, "mean", "(I)J"⟩
abbrev cX6_early : ByteArray := prog_1_method_34_code
def yX6_early : MethodName := ⟨RX6, "early", "()I"⟩
abbrev cX6_worst : ByteArray := prog_1_method_35_code
def yX6_worst : MethodName := ⟨RX6, "worst", "()I"⟩
abbrev cX6_idle : ByteArray := prog_1_method_36_code
def yX6_idle : MethodName := ⟨RX6, "idle", "()I"⟩
abbrev cX6_span : ByteArray := prog_1_method_37_code
def yX6_span : MethodName := ⟨RX6, "span", "()I"⟩
abbrev cX6_swap : ByteArray := prog_1_method_38_code
def yX6_swap : MethodName := ⟨RX6, "swap", "()I"⟩
abbrev cX6_turned : ByteArray := prog_1_method_39_code
def yX6_turned : MethodName := ⟨RX6, "turned", "()I"⟩
abbrev cX6_shift : ByteArray := prog_1_method_40_code
def yX6_shift : MethodName := ⟨RX6, "shift", "()I"⟩
abbrev cX6_row : ByteArray := prog_1_method_41_code
def yX6_row : MethodName := ⟨RX6, "row", "(I)I"⟩
abbrev cX6_judge : ByteArray := prog_1_method_42_code
def yX6_judge : MethodName := ⟨RX6, "judge", "()I"⟩
abbrev cX6_clear : ByteArray := prog_1_method_43_code
def yX6_clear : MethodName := ⟨RX6, "clear", "()I"⟩
abbrev cX6_lots : ByteArray := prog_1_method_44_code
def yX6_lots : MethodName := ⟨RX6, "lots", "(III)I"⟩
abbrev cX6_image : ByteArray := prog_1_method_45_code
def yX6_image : MethodName := ⟨RX6, "image", "()I"⟩
abbrev cX6_restore : ByteArray := prog_1_method_46_code
def yX6_restore : MethodName := ⟨RX6, "restore", "()I"⟩
abbrev cX6_count : ByteArray := prog_1_method_47_code
def yX6_count : MethodName := ⟨RX6, "count", "(I)I"⟩
abbrev cX6_refused : ByteArray := prog_1_method_48_code
def yX6_refused : MethodName := ⟨RX6, "refused", "(I)I"⟩
abbrev cX6_asNow : ByteArray := prog_1_method_49_code
def yX6_asNow : MethodName := ⟨RX6, "asNow", "()LEveryTwentyMinutes$Hall;"⟩
abbrev cX6_inMind : ByteArray := prog_1_method_50_code
def yX6_inMind : MethodName := ⟨RX6, "inMind", "()LEveryTwentyMinutes$Hall;"⟩
abbrev cX6_lateBy : ByteArray := prog_1_method_51_code
def yX6_lateBy : MethodName := ⟨RX6, "lateBy", "(LEveryTwentyMinutes$Hall;)I"⟩
abbrev cX6_askedBy : ByteArray := prog_1_method_52_code
def yX6_askedBy : MethodName := ⟨RX6, "askedBy", "(IIII)LEveryTwentyMinutes$Hall;"⟩
abbrev cX6_oneIsContent : ByteArray := prog_1_method_53_code
def yX6_oneIsContent : MethodName := ⟨RX6, "oneIsContent", "(IIII)Z"⟩
abbrev cX6_otherIsContent : ByteArray := prog_1_method_54_code
def yX6_otherIsContent : MethodName := ⟨RX6, "otherIsContent", "(IIII)Z"⟩
abbrev cX6_kindsTold : ByteArray := prog_1_method_55_code
def yX6_kindsTold : MethodName := ⟨RX6, "kindsTold", "(I)I"⟩
abbrev cX6_figuresTold : ByteArray := prog_1_method_56_code
def yX6_figuresTold : MethodName := ⟨RX6, "figuresTold", "(I)I"⟩
abbrev cX6_minutesTold : ByteArray := prog_1_method_57_code
def yX6_minutesTold : MethodName := ⟨RX6, "minutesTold", "(IZ)I"⟩
abbrev cX6_endsAsTold : ByteArray := prog_1_method_58_code
def yX6_endsAsTold : MethodName := ⟨RX6, "endsAsTold", "(LEveryTwentyMinutes$Hall;)Z"⟩
abbrev cX6_power : ByteArray := prog_1_method_59_code
def yX6_power : MethodName := ⟨RX6, "power", "(II)J"⟩
abbrev cX6_lowest : ByteArray := prog_1_method_60_code
def yX6_lowest : MethodName := ⟨RX6, "lowest", "(JJI)J"⟩
def RX7 : String := "EveryTwentyMinutesModel"
def TX7 : u_T := fun k => match k with
  | 0 => ("EveryTwentyMinutesModel", "many", "I", false)
  | 1 => ("EveryTwentyMinutesModel", "kinds", "[I", true)
  | 2 => ("EveryTwentyMinutesModel", "figures", "[I", true)
  | 3 => ("EveryTwentyMinutesModel", "ats", "[I", true)
  | 4 => ("EveryTwentyMinutesModel", "weds0", "[I", true)
  | 5 => ("EveryTwentyMinutesModel", "begins", "[I", true)
  | 6 => ("EveryTwentyMinutesModel", "ends", "[I", true)
  | 7 => ("EveryTwentyMinutesModel", "roomOf", "[I", true)
  | 8 => ("EveryTwentyMinutesModel", "line", "[I", true)
  | 9 => ("EveryTwentyMinutesModel", "lined", "I", false)
  | 10 => ("EveryTwentyMinutesModel", "rooms0", "I", false)
  | 11 => ("EveryTwentyMinutesModel", "frees", "[I", true)
  | 12 => ("EveryTwentyMinutesModel", "tired", "I", false)
  | 13 => ("EveryTwentyMinutesModel", "slack0", "I", false)
  | 14 => ("EveryTwentyMinutesModel", "thrown", "I", false)
  | 15 => ("EveryTwentyMinutesModel", "refusals", "[I", true)
  | 16 => ("EveryTwentyMinutesModel", "letters", "[I", true)
  | 17 => ("EveryTwentyMinutesModel", "letterMany", "I", false)
  | 18 => ("EveryTwentyMinutesModel", "at0", "I", false)
  | 19 => ("EveryTwentyMinutesModel", "isBad", "Z", false)
  | 20 => ("EveryTwentyMinutesModel", "statements", "I", false)
  | 21 => ("EveryTwentyMinutesModel", "placeIn", "[I", true)
  | 22 => ("EveryTwentyMinutesModel", "letterOf", "[I", true)
  | 23 => ("EveryTwentyMinutesModel", "told", "[I", true)
  | 24 => ("EveryTwentyMinutesModel", "kept", "[I", true)
  | 25 => ("EveryTwentyMinutesModel", "imaged", "[I", true)
  | 26 => ("EveryTwentyMinutesModel", "hasImage", "Z", false)
  | 27 => ("EveryTwentyMinutesModel", "place0", "I", false)
  | 28 => ("EveryTwentyMinutesModel", "isTaking", "Z", false)
  | 29 => ("EveryTwentyMinutesModel", "keptIn", "[I", false)
  | 30 => ("EveryTwentyMinutesModel", "turns0", "[I", true)
  | 31 => ("EveryTwentyMinutesModel", "turnOf", "[I", true)
  | 32 => ("EveryTwentyMinutesModel", "turned0", "I", false)
  | 33 => ("EveryTwentyMinutesModel", "sorted", "[I", true)
  | 34 => ("EveryTwentyMinutesModel", "poseFrom", "[I", true)
  | 35 => ("EveryTwentyMinutesModel", "costs", "[I", true)
  | 36 => ("EveryTwentyMinutesModel", "row", "[I", true)
  | 37 => ("EveryTwentyMinutesModel", "rowMany", "I", false)
  | _ => ("EveryTwentyMinutesModel", "seed", "I", false)
def tyX7 : Nat → FieldType := fun k => match k with
  | 0 => .int
  | 1 => .array .int
  | 2 => .array .int
  | 3 => .array .int
  | 4 => .array .int
  | 5 => .array .int
  | 6 => .array .int
  | 7 => .array .int
  | 8 => .array .int
  | 9 => .int
  | 10 => .int
  | 11 => .array .int
  | 12 => .int
  | 13 => .int
  | 14 => .int
  | 15 => .array .int
  | 16 => .array .int
  | 17 => .int
  | 18 => .int
  | 19 => .boolean
  | 20 => .int
  | 21 => .array .int
  | 22 => .array .int
  | 23 => .array .int
  | 24 => .array .int
  | 25 => .array .int
  | 26 => .boolean
  | 27 => .int
  | 28 => .boolean
  | 29 => .array .int
  | 30 => .array .int
  | 31 => .array .int
  | 32 => .int
  | 33 => .array .int
  | 34 => .array .int
  | 35 => .array .int
  | 36 => .array .int
  | 37 => .int
  | _ => .int
abbrev wsX70 : List Cond := u_ws RX7 TX7 39
theorem nmX7 : ∀ a, a < 39 → ∀ b, b < 39 → a ≠ b → (TX7 a).2.1 ≠ (TX7 b).2.1 := by decide +kernel
theorem tyX7_ok : ∀ k, k < 39 → parseFieldDescriptor (TX7 k).2.2.1 = some (tyX7 k) := by decide +kernel
abbrev cX7_init : ByteArray := prog_9_method_1_code
def yX7_init : MethodName := ⟨RX7, "<init>", "()V"⟩
abbrev cX7_in : ByteArray := prog_9_method_3_code
def yX7_in : MethodName := ⟨RX7, "in", "(JJJ)Z"⟩
abbrev cX7_refuse : ByteArray := prog_9_method_4_code
def yX7_refuse : MethodName := ⟨RX7, "refuse", "(I)I"⟩
abbrev cX7_isCouple : ByteArray := prog_9_method_5_code
def yX7_isCouple : MethodName := ⟨RX7, "isCouple", "(I)Z"⟩
abbrev cX7_wrongNumber : ByteArray := prog_9_method_6_code
def yX7_wrongNumber : MethodName := ⟨RX7, "wrongNumber", "(III)I"⟩
abbrev cX7_wrongBit : ByteArray := prog_9_method_7_code
def yX7_wrongBit : MethodName := ⟨RX7, "wrongBit", "(III)I"⟩
abbrev cX7_hasBit : ByteArray := prog_9_method_8_code
def yX7_hasBit : MethodName := ⟨RX7, "hasBit", "(II)Z"⟩
abbrev cX7_least : ByteArray := prog_9_method_9_code
def yX7_least : MethodName := ⟨RX7, "least", "(II)I"⟩
abbrev cX7_most : ByteArray := prog_9_method_10_code
def yX7_most : MethodName := ⟨RX7, "most", "(II)I"⟩
abbrev cX7_lastsBy : ByteArray := prog_9_method_11_code
def yX7_lastsBy : MethodName := ⟨RX7, "lastsBy", "(II)I"⟩
abbrev cX7_readyOf : ByteArray := prog_9_method_12_code
def yX7_readyOf : MethodName := ⟨RX7, "readyOf", "(I)I"⟩
abbrev cX7_guestsOf : ByteArray := prog_9_method_13_code
def yX7_guestsOf : MethodName := ⟨RX7, "guestsOf", "(I)I"⟩
abbrev cX7_posesOf : ByteArray := prog_9_method_14_code
def yX7_posesOf : MethodName := ⟨RX7, "posesOf", "(I)I"⟩
abbrev cX7_restFor : ByteArray := prog_9_method_15_code
def yX7_restFor : MethodName := ⟨RX7, "restFor", "(I)V"⟩
abbrev cX7_firstOff : ByteArray := prog_9_method_16_code
def yX7_firstOff : MethodName := ⟨RX7, "firstOff", "()I"⟩
abbrev cX7_wedOne : ByteArray := prog_9_method_17_code
def yX7_wedOne : MethodName := ⟨RX7, "wedOne", "(I)V"⟩
abbrev cX7_wedAll : ByteArray := prog_9_method_18_code
def yX7_wedAll : MethodName := ⟨RX7, "wedAll", "()V"⟩
abbrev cX7_lateOf : ByteArray := prog_9_method_19_code
def yX7_lateOf : MethodName := ⟨RX7, "lateOf", "(I)I"⟩
abbrev cX7_allLate : ByteArray := prog_9_method_20_code
def yX7_allLate : MethodName := ⟨RX7, "allLate", "()I"⟩
abbrev cX7_lastEnd : ByteArray := prog_9_method_21_code
def yX7_lastEnd : MethodName := ⟨RX7, "lastEnd", "()I"⟩
abbrev cX7_isNear : ByteArray := prog_9_method_22_code
def yX7_isNear : MethodName := ⟨RX7, "isNear", "(II)Z"⟩
abbrev cX7_meet : ByteArray := prog_9_method_23_code
def yX7_meet : MethodName := ⟨RX7, "meet", "(II)Z"⟩
abbrev cX7_meetMany : ByteArray := prog_9_method_24_code
def yX7_meetMany : MethodName := ⟨RX7, "meetMany", "()I"⟩
abbrev cX7_placeOf : ByteArray := prog_9_method_25_code
def yX7_placeOf : MethodName := ⟨RX7, "placeOf", "(I)I"⟩
abbrev cX7_putFirst : ByteArray := prog_9_method_26_code
def yX7_putFirst : MethodName := ⟨RX7, "putFirst", "(I)V"⟩
abbrev cX7_coupleComes : ByteArray := prog_9_method_27_code
def yX7_coupleComes : MethodName := ⟨RX7, "coupleComes", "(III)Z"⟩
abbrev cX7_roomsBecome : ByteArray := prog_9_method_28_code
def yX7_roomsBecome : MethodName := ⟨RX7, "roomsBecome", "(I)V"⟩
abbrev cX7_feed : ByteArray := prog_9_method_29_code
def yX7_feed : MethodName := ⟨RX7, "feed", "(I)I"⟩
abbrev cX7_here : ByteArray := prog_9_method_30_code
def yX7_here : MethodName := ⟨RX7, "here", "()I"⟩
abbrev cX7_readDigits : ByteArray := prog_9_method_31_code
def yX7_readDigits : MethodName := ⟨RX7, "readDigits", "(I)I"⟩
abbrev cX7_isLetter : ByteArray := prog_9_method_32_code
def yX7_isLetter : MethodName := ⟨RX7, "isLetter", "(I)Z"⟩
abbrev cX7_readStatement : ByteArray := prog_9_method_33_code
def yX7_readStatement : MethodName := ⟨RX7, "readStatement", "()V"⟩
abbrev cX7_wedsCome : ByteArray := prog_9_method_34_code
def yX7_wedsCome : MethodName := ⟨RX7, "wedsCome", "(I)Z"⟩
abbrev cX7_comesTold : ByteArray := prog_9_method_35_code
def yX7_comesTold : MethodName := ⟨RX7, "comesTold", "(I)Z"⟩
abbrev cX7_hall : ByteArray := prog_9_method_36_code
def yX7_hall : MethodName := ⟨RX7, "hall", "()I"⟩
abbrev cX7_carry : ByteArray := prog_9_method_37_code
def yX7_carry : MethodName := ⟨RX7, "carry", "(I)I"⟩
abbrev cX7_carryAll : ByteArray := prog_9_method_38_code
def yX7_carryAll : MethodName := ⟨RX7, "carryAll", "([IZ)V"⟩
abbrev cX7_think : ByteArray := prog_9_method_39_code
def yX7_think : MethodName := ⟨RX7, "think", "()V"⟩
abbrev cX7_again : ByteArray := prog_9_method_40_code
def yX7_again : MethodName := ⟨RX7, "again", "()V"⟩
abbrev cX7_image : ByteArray := prog_9_method_41_code
def yX7_image : MethodName := ⟨RX7, "image", "()I"⟩
abbrev cX7_restore : ByteArray := prog_9_method_42_code
def yX7_restore : MethodName := ⟨RX7, "restore", "()I"⟩
abbrev cX7_keepTurn : ByteArray := prog_9_method_43_code
def yX7_keepTurn : MethodName := ⟨RX7, "keepTurn", "()V"⟩
abbrev cX7_back : ByteArray := prog_9_method_44_code
def yX7_back : MethodName := ⟨RX7, "back", "()I"⟩
abbrev cX7_coupleOf : ByteArray := prog_9_method_45_code
def yX7_coupleOf : MethodName := ⟨RX7, "coupleOf", "(II)I"⟩
abbrev cX7_order : ByteArray := prog_9_method_46_code
def yX7_order : MethodName := ⟨RX7, "order", "(I)I"⟩
abbrev cX7_free : ByteArray := prog_9_method_47_code
def yX7_free : MethodName := ⟨RX7, "free", "(I)I"⟩
abbrev cX7_couple : ByteArray := prog_9_method_48_code
def yX7_couple : MethodName := ⟨RX7, "couple", "(III)I"⟩
abbrev cX7_rooms : ByteArray := prog_9_method_49_code
def yX7_rooms : MethodName := ⟨RX7, "rooms", "(I)I"⟩
abbrev cX7_weds : ByteArray := prog_9_method_50_code
def yX7_weds : MethodName := ⟨RX7, "weds", "(I)I"⟩
abbrev cX7_pulls : ByteArray := prog_9_method_51_code
def yX7_pulls : MethodName := ⟨RX7, "pulls", "(I)I"⟩
abbrev cX7_slack : ByteArray := prog_9_method_52_code
def yX7_slack : MethodName := ⟨RX7, "slack", "(I)I"⟩
abbrev cX7_rests : ByteArray := prog_9_method_53_code
def yX7_rests : MethodName := ⟨RX7, "rests", "(I)I"⟩
abbrev cX7_when : ByteArray := prog_9_method_54_code
def yX7_when : MethodName := ⟨RX7, "when", "(II)I"⟩
abbrev cX7_waits : ByteArray := prog_9_method_55_code
def yX7_waits : MethodName := ⟨RX7, "waits", "(I)I"⟩
abbrev cX7_all : ByteArray := prog_9_method_56_code
def yX7_all : MethodName := ⟨RX7, "all", "(I)I"⟩
abbrev cX7_firstMet : ByteArray := prog_9_method_57_code
def yX7_firstMet : MethodName := ⟨RX7, "firstMet", "()I"⟩
abbrev cX7_strayedOne : ByteArray := prog_9_method_58_code
def yX7_strayedOne : MethodName := ⟨RX7, "strayedOne", "()I"⟩
abbrev cX7_met : ByteArray := prog_9_method_59_code
def yX7_met : MethodName := ⟨RX7, "met", "(I)I"⟩
abbrev cX7_laySorted : ByteArray := prog_9_method_60_code
def yX7_laySorted : MethodName := ⟨RX7, "laySorted", "()V"⟩
abbrev cX7_ordersOf : ByteArray := prog_9_method_61_code
def yX7_ordersOf : MethodName := ⟨RX7, "ordersOf", "(I)I"⟩
abbrev cX7_layOrder : ByteArray := prog_9_method_62_code
def yX7_layOrder : MethodName := ⟨RX7, "layOrder", "(I)V"⟩
abbrev cX7_lateNow : ByteArray := prog_9_method_63_code
def yX7_lateNow : MethodName := ⟨RX7, "lateNow", "()I"⟩
abbrev cX7_best : ByteArray := prog_9_method_64_code
def yX7_best : MethodName := ⟨RX7, "best", "(I)I"⟩
abbrev cX7_pull : ByteArray := prog_9_method_65_code
def yX7_pull : MethodName := ⟨RX7, "pull", "()I"⟩
abbrev cX7_bestSlack : ByteArray := prog_9_method_66_code
def yX7_bestSlack : MethodName := ⟨RX7, "bestSlack", "(I)I"⟩
abbrev cX7_rest : ByteArray := prog_9_method_67_code
def yX7_rest : MethodName := ⟨RX7, "rest", "()I"⟩
abbrev cX7_saved : ByteArray := prog_9_method_68_code
def yX7_saved : MethodName := ⟨RX7, "saved", "()I"⟩
abbrev cX7_can : ByteArray := prog_9_method_69_code
def yX7_can : MethodName := ⟨RX7, "can", "(III)I"⟩
abbrev cX7_nextPosing : ByteArray := prog_9_method_70_code
def yX7_nextPosing : MethodName := ⟨RX7, "nextPosing", "(I)I"⟩
abbrev cX7_pose : ByteArray := prog_9_method_71_code
def yX7_pose : MethodName := ⟨RX7, "pose", "()I"⟩
abbrev cX7_fountain : ByteArray := prog_9_method_72_code
def yX7_fountain : MethodName := ⟨RX7, "fountain", "(I)I"⟩
abbrev cX7_fountains : ByteArray := prog_9_method_73_code
def yX7_fountains : MethodName := ⟨RX7, "fountains", "(I)I"⟩
abbrev cX7_insideAt : ByteArray := prog_9_method_74_code
def yX7_insideAt : MethodName := ⟨RX7, "insideAt", "(I)I"⟩
abbrev cX7_inside : ByteArray := prog_9_method_75_code
def yX7_inside : MethodName := ⟨RX7, "inside", "(I)I"⟩
abbrev cX7_crowded : ByteArray := prog_9_method_76_code
def yX7_crowded : MethodName := ⟨RX7, "crowded", "()I"⟩
abbrev cX7_price : ByteArray := prog_9_method_77_code
def yX7_price : MethodName := ⟨RX7, "price", "(I)I"⟩
abbrev cX7_divisor : ByteArray := prog_9_method_78_code
def yX7_divisor : MethodName := ⟨RX7, "divisor", "(JJ)J"⟩
abbrev cX7_partOf : ByteArray := prog_9_method_79_code
def yX7_partOf : MethodName := ⟨RX7, "partOf", "(JJI)J"⟩
abbrev cX7_odds : ByteArray := prog_9_method_80_code
def yX7_odds : MethodName := ⟨RX7, "odds", "(IIII)J"⟩
abbrev cX7_two : ByteArray := prog_9_method_81_code
def yX7_two : MethodName := ⟨RX7, "two", "(II)I"⟩
abbrev cX7_isRow : ByteArray := prog_9_method_82_code
def yX7_isRow : MethodName := ⟨RX7, "isRow", "()Z"⟩
abbrev cX7_whenBy : ByteArray := prog_9_method_83_code
def yX7_whenBy : MethodName := ⟨RX7, "whenBy", "(II)I"⟩
abbrev cX7_whatWas : ByteArray := prog_9_method_84_code
def yX7_whatWas : MethodName := ⟨RX7, "whatWas", "(II)I"⟩
abbrev cX7_longest : ByteArray := prog_9_method_85_code
def yX7_longest : MethodName := ⟨RX7, "longest", "(I)I"⟩
abbrev cX7_mean : ByteArray := prog_9_method_86_code
def yX7_mean : MethodName := ⟨RX7, "mean", "(I)J"⟩
abbrev cX7_early : ByteArray := prog_9_method_87_code
def yX7_early : MethodName := ⟨RX7, "early", "()I"⟩
abbrev cX7_worst : ByteArray := prog_9_method_88_code
def yX7_worst : MethodName := ⟨RX7, "worst", "()I"⟩
abbrev cX7_idle : ByteArray := prog_9_method_89_code
def yX7_idle : MethodName := ⟨RX7, "idle", "()I"⟩
abbrev cX7_span : ByteArray := prog_9_method_90_code
def yX7_span : MethodName := ⟨RX7, "span", "()I"⟩
abbrev cX7_swap : ByteArray := prog_9_method_91_code
def yX7_swap : MethodName := ⟨RX7, "swap", "()I"⟩
abbrev cX7_turned : ByteArray := prog_9_method_92_code
def yX7_turned : MethodName := ⟨RX7, "turned", "()I"⟩
abbrev cX7_unwed : ByteArray := prog_9_method_93_code
def yX7_unwed : MethodName := ⟨RX7, "unwed", "()I"⟩
abbrev cX7_shift : ByteArray := prog_9_method_94_code
def yX7_shift : MethodName := ⟨RX7, "shift", "()I"⟩
abbrev cX7_row : ByteArray := prog_9_method_95_code
def yX7_row : MethodName := ⟨RX7, "row", "(I)I"⟩
abbrev cX7_judge : ByteArray := prog_9_method_96_code
def yX7_judge : MethodName := ⟨RX7, "judge", "()I"⟩
abbrev cX7_clear : ByteArray := prog_9_method_97_code
def yX7_clear : MethodName := ⟨RX7, "clear", "()I"⟩
abbrev cX7_drawBelow : ByteArray := prog_9_method_98_code
def yX7_drawBelow : MethodName := ⟨RX7, "drawBelow", "(I)I"⟩
abbrev cX7_lots : ByteArray := prog_9_method_99_code
def yX7_lots : MethodName := ⟨RX7, "lots", "(III)I"⟩
abbrev cX7_count : ByteArray := prog_9_method_100_code
def yX7_count : MethodName := ⟨RX7, "count", "(I)I"⟩
def RJ6 : String := "java/lang/Integer"
abbrev cJ6_bitCount_0f7a4 : ByteArray := prog_10_method_49_code
def yJ6_bitCount_0f7a4 : MethodName := ⟨RJ6, "bitCount", "(I)I"⟩
def RL : String := "EveryTwentyMinutesLaw"
abbrev cL_law : ByteArray := code
def yL_law : MethodName := ⟨RL, "law", "([I)Z"⟩
abbrev vwCl : List vw_C := [(RX0, TX0, 5), (RX1, TX1, 3), (RX2, TX2, 14), (RX4, TX4, 2), (RX5, TX5, 3), (RX6, TX6, 11), (RX7, TX7, 39)]
end
section
/-! THE FRAME. A world is a list of shapes by keys (64 * group + place) and a list of memories, one a group; XE says: from this frame of the machine, whenever the pure program o answers r, the machine comes to an end with Q r. A row an instruction. -/
def xT : List Cond := lw_tbl.filter goodWord
theorem xT_mem {w : Cond} (i : Nat) (h : lw_tbl[i]? = some w) (hg : goodWord w = true) : w ∈ xT := List.mem_filter.mpr ⟨List.mem_of_getElem? h, hg⟩
abbrev Mem : Type := Nat → Nat → Int32
abbrev XSh : Type := Nat ⊕ (List Nat ⊕ (Nat × List Nat))
abbrev XSs : Type := List (Nat × XSh)
abbrev XLs : Type := List (Nat × Option Value)
abbrev XR : Type := Option Value × List Mem
def lt {α β : Type} (x : α) (f : α → β) : β := f x
def ck {α : Type} (b : Bool) (o : Option α) : Option α := if b then o else none
def xs (m : Mem) (p k : Nat) (v : Int32) : Mem := fun q j => if q = p ∧ j = k then v else m q j
def xcp (m : Mem) (p : Nat) (f : Nat → Int32) (sp dp n : Nat) : Mem := fun q j => if q = p then va_cpy f (m p) sp dp n j else m q j
def inb (i : Int32) (n : Nat) : Bool := decide (0 ≤ i) && decide (i.toNatClampNeg < n)
def ix (i : Int32) : Nat := i.toNatClampNeg
def isb (v : Int32) : Bool := decide (v = 0) || decide (v = 1)
theorem inb_in {i : Int32} {n : Nat} (h : inb i n = true) : vp_in i n := by
  unfold inb at h
  simp only [Bool.and_eq_true, decide_eq_true_eq] at h
  intro q
  rcases q with q | q
  · exact absurd h.1 (by rw [Int32.not_le]; exact q)
  · omega
theorem narrow_isb {v : Int32} (h : isb v = true) : narrow .boolean (.int v) = .int v := by
  unfold isb at h
  simp only [Bool.or_eq_true, decide_eq_true_eq] at h
  rcases h with rfl | rfl <;> rfl
theorem fits_isb {v : Int32} (h : isb v = true) : fits .boolean (.int v) = true := by
  unfold isb at h
  simp only [Bool.or_eq_true, decide_eq_true_eq] at h
  rcases h with rfl | rfl <;> rfl
def x_cv (ad : Nat → Nat) (v : Value) : Value := match v with
  | .ref k => .ref (ad k)
  | w => w
/-- a field: 0 a number, 1 null, 2 a place of its own group that changes (0: null), k + 3 the cell of key k -/
def x_fv (ad : Nat → Nat) (g : Nat) (κ : Nat) (v : Int32) : Value := match κ with
  | 0 => .int v
  | 1 => .null
  | 2 => if v = 0 then .null else .ref (ad (64 * g + v.toNatClampNeg % 64))
  | k + 3 => .ref (ad k)
def x_fs (ad : Nat → Nat) (g : Nat) : List Nat → (Nat → Int32) → Nat → List Value
  | [], _, _ => []
  | κ :: r, m, i => x_fv ad g κ (m i) :: x_fs ad g r m (i + 1)
def x_rf (ad : Nat → Nat) (ks : List Nat) (i : Nat) : Option Nat := match ks.getD i 0 with
  | 0 => none
  | k + 1 => some (ad k)
def x_cell (cc : ClassId × ClassId) (ad : Nat → Nat) (k : Nat) (sh : XSh) (m : Nat → Int32) : va_E := match sh with
  | .inl n => .inl (cc.1, (n, .inl m))
  | .inr (.inl ks) => .inl (cc.2, (ks.length, .inr (.inr (.inr (.inr (x_rf ad ks))))))
  | .inr (.inr o) => .inr (o.1, x_fs ad (k / 64) o.2 m 0)
def x_hs (hs : List Mem) (k : Nat) : Nat → Int32 := (hs.getD (k / 64) (fun _ _ => 0)) (k % 64)
def x_w (cc : ClassId × ClassId) (ad : Nat → Nat) (shs : XSs) (hs : List Mem) : va_W := shs.map (fun q => (ad q.1, x_cell cc ad q.1 q.2 (x_hs hs q.1)))
def x_lk : XSs → Nat → Option XSh
  | [], _ => none
  | q :: r, k => if q.1 = k then some q.2 else x_lk r k
def xlk : XLs → Nat → Option Value
  | [], _ => none
  | q :: r, i => if q.1 = i then q.2 else xlk r i
def x_nl (ls : XLs) (i : Nat) : Bool := match i with
  | 0 => true
  | j + 1 => match xlk ls j with
    | some (.long _) => false
    | some (.double _) => false
    | _ => true
def x_ls (ad : Nat → Nat) (lsA : Array Slot) (nL : Nat) (ls : XLs) : Prop := ∃ l, lv_has lsA nL l ∧ ∀ i v, xlk ls i = some v → (i, x_cv ad v) ∈ l
abbrev XB : Type := Program × Launch × Env × Room × State × MethodId × Array Value × List Frame × Method × Code × va_G × (ClassId × ClassId) × (Nat → Prop) × Heap × (Nat → Nat) × XSs
/-- own class, code, locals, what it returns, its name, its depth -/
abbrev XM : Type := String × ByteArray × Nat × Option FieldType × String × Nat × Nat × Nat
abbrev x_dp (M : XM) : Nat := M.2.2.2.2.2.1
abbrev x_mc (M : XM) : Nat := M.2.2.2.2.2.2.1
abbrev x_ms (M : XM) : Nat := M.2.2.2.2.2.2.2
abbrev x_tys (cc : ClassId × ClassId) : List (ClassId × FieldType) := [(cc.1, .int), (cc.2, .object RX2)]
def XOk (B : XB) (M : XM) : Prop := match B with
  | (p, _, _, Rm, s, m, args, _, meth, c, D, cc, A, H0, _, _) => p.tables.exec = Jvm.exec ∧ c.code = M.2.1 ∧ c.maxLocals = M.2.2.1 ∧ s.vm.findClass M.1 = some m.cls ∧ (∀ w ∈ xT, w.before args s = true) ∧ va_K D vwCl (x_tys cc) s ∧ (∀ q, H0.size ≤ q → A q) ∧ meth.sig.returnType = M.2.2.2.1 ∧ meth.name = M.2.2.2.2.1 ∧ meth.locks = false ∧ x_dp M ≤ Rm.frames ∧ 40 * x_dp M ≤ Rm.locals ∧ H0 = s.heap ∧ x_mc M ≤ Rm.cells ∧ x_ms M ≤ Rm.slots
def XE {α R : Type} (B : XB) (M : XM) (Q : R → State → Prop) (pc : Nat) (ls : XLs) (st : List Value) (cs : Nat × Nat) (shs : XSs) (hs : List Mem) (k : α → Option R) (o : Option α) : Prop := match B with
  | (p, l, e, Rm, s, m, args, below, meth, c, D, cc, A, H0, ad0, shs0) =>
    XOk (p, l, e, Rm, s, m, args, below, meth, c, D, cc, A, H0, ad0, shs0) M → ∀ (ad : Nat → Nat) (H : Heap) (locs : List Loc) (lsA : Array Slot), va_P D vwCl (x_w cc ad shs hs) H → va_D A (x_w cc ad shs hs) → va_S A H0 H locs → ((∀ k, x_lk shs0 k ≠ none → x_lk shs k ≠ none) ∧ ∀ k, (x_lk shs0 k ≠ none ∨ x_lk shs k = none) → ad k = ad0 k) → x_ls ad lsA M.2.2.1 ls → ∀ r, o.bind k = some r → W p l e Rm s m args below meth c H locs cs.1 cs.2 (Q r) (F0 m pc lsA (st.map (x_cv ad)))

theorem x_ls.at {ad : Nat → Nat} {lsA : Array Slot} {nL : Nat} {ls : XLs} (h : x_ls ad lsA nL ls) {i : Nat} {v : Value} (hv : xlk ls i = some v) : lsA[i]? = some (.val (x_cv ad v)) := by
  obtain ⟨l, h1, h2⟩ := h
  exact h1.2.2 _ (h2 i v hv)
theorem x_ls.size {ad : Nat → Nat} {lsA : Array Slot} {nL : Nat} {ls : XLs} (h : x_ls ad lsA nL ls) : lsA.size = nL := by
  obtain ⟨l, h1, h2⟩ := h
  exact h1.1
theorem x_cv_cat (ad : Nat → Nat) (v : Value) : (x_cv ad v).category = v.category := by cases v <;> rfl
theorem x_nl_cat {ad : Nat → Nat} {ls : XLs} {j : Nat} {v : Value} (h : x_nl ls (j + 1) = true) (hv : xlk ls j = some v) : ((x_cv ad v).category == 2) = false := by
  rw [x_cv_cat]
  simp only [x_nl, hv] at h
  cases v <;> first | rfl | cases h
theorem x_ls.put {ad : Nat → Nat} {ls' : Array Slot} {nL : Nat} {ls : XLs} {l : List (Nat × Value)} {i : Nat} {v : Value} (h2 : ∀ i v, xlk ls i = some v → (i, x_cv ad v) ∈ l) (hn : x_nl ls i = true) (h : lv_has ls' nL ((i, x_cv ad v) :: l.filter (fun q => !(q.1 == i) && !(q.1 + 1 == i && q.2.category == 2)))) : x_ls ad ls' nL ((i, some v) :: ls) := by
  refine ⟨_, h, fun j u hj => ?_⟩
  unfold xlk at hj
  by_cases e : i = j
  · rw [if_pos e] at hj
    cases hj
    subst e
    exact List.mem_cons_self
  · rw [if_neg e] at hj
    refine List.mem_cons_of_mem _ (List.mem_filter.mpr ⟨h2 j u hj, ?_⟩)
    have e1 : (j == i) = false := by simp; omega
    by_cases e2 : j + 1 = i
    · subst e2
      have e3 := x_nl_cat (ad := ad) hn hj
      simp [e3]
    · have e4 : (j + 1 == i) = false := by simp; omega
      simp [e1, e4]
theorem x_ls.putL {ad : Nat → Nat} {ls' : Array Slot} {nL : Nat} {ls : XLs} {l : List (Nat × Value)} {i : Nat} {v : Value} (h2 : ∀ i v, xlk ls i = some v → (i, x_cv ad v) ∈ l) (hn : x_nl ls i = true) (h : lv_has ls' nL ((i, x_cv ad v) :: l.filter (fun q => !(q.1 == i) && (!(q.1 == i + 1) && !(q.1 + 1 == i && q.2.category == 2))))) : x_ls ad ls' nL ((i, some v) :: (i + 1, none) :: ls) := by
  refine ⟨_, h, fun j u hj => ?_⟩
  unfold xlk at hj
  by_cases e : i = j
  · rw [if_pos e] at hj
    cases hj
    subst e
    exact List.mem_cons_self
  · rw [if_neg e] at hj
    unfold xlk at hj
    by_cases e0 : i + 1 = j
    · rw [if_pos e0] at hj; cases hj
    rw [if_neg e0] at hj
    refine List.mem_cons_of_mem _ (List.mem_filter.mpr ⟨h2 j u hj, ?_⟩)
    have e1 : (j == i) = false := by simp; omega
    have e5 : (j == i + 1) = false := by simp; omega
    by_cases e2 : j + 1 = i
    · subst e2
      have e3 := x_nl_cat (ad := ad) hn hj
      have e6 : ¬ j = j + 1 + 1 := by omega
      simp [e3, e6]
    · have e4 : (j + 1 == i) = false := by simp; omega
      simp [e1, e4, e5]
theorem x_lk_at {shs : XSs} {k : Nat} {sh : XSh} (h : x_lk shs k = some sh) : ∃ i : Nat, shs[i]? = some (k, sh) := by
  induction shs with
  | nil => cases h
  | cons q r ih =>
    unfold x_lk at h
    by_cases e : q.1 = k
    · rw [if_pos e] at h
      cases h
      subst e
      exact ⟨0, rfl⟩
    · rw [if_neg e] at h
      obtain ⟨i, hi⟩ := ih h
      exact ⟨i + 1, hi⟩
theorem x_lk_some {shs : XSs} {i : Nat} {q : Nat × XSh} (h : shs[i]? = some q) : x_lk shs q.1 ≠ none := by
  induction shs generalizing i with
  | nil => simp at h
  | cons a r ih =>
    unfold x_lk
    by_cases e : a.1 = q.1
    · rw [if_pos e]; exact fun h => by cases h
    · rw [if_neg e]
      cases i with
      | zero => cases h; exact absurd rfl e
      | succ i => exact ih h
theorem x_w_at {cc : ClassId × ClassId} {ad : Nat → Nat} {shs : XSs} {hs : List Mem} {i k : Nat} {sh : XSh} (h : shs[i]? = some (k, sh)) : (x_w cc ad shs hs)[i]? = some (ad k, x_cell cc ad k sh (x_hs hs k)) := by
  unfold x_w
  rw [List.getElem?_map, h]; rfl
theorem x_w_of {cc : ClassId × ClassId} {ad : Nat → Nat} {shs : XSs} {hs : List Mem} {i : Nat} {q : Nat × va_E} (h : (x_w cc ad shs hs)[i]? = some q) : ∃ (k : Nat) (sh : XSh), shs[i]? = some (k, sh) ∧ q = (ad k, x_cell cc ad k sh (x_hs hs k)) := by
  unfold x_w at h
  rw [List.getElem?_map] at h
  cases e : shs[i]? with
  | none => rw [e] at h; cases h
  | some a => rw [e] at h; cases h; exact ⟨a.1, a.2, rfl, rfl⟩
theorem x_uniq {cc : ClassId × ClassId} {ad : Nat → Nat} {shs : XSs} {hs : List Mem} {A : Nat → Prop} (hD : va_D A (x_w cc ad shs hs)) {i j : Nat} {p q : Nat × XSh} (hi : shs[i]? = some p) (hj : shs[j]? = some q) (h : ad p.1 = ad q.1) : i = j := hD.1 i j _ _ (x_w_at (sh := p.2) (k := p.1) hi) (x_w_at (sh := q.2) (k := q.1) hj) h
theorem x_fs_len (ad : Nat → Nat) (g : Nat) (m : Nat → Int32) : ∀ (κs : List Nat) (i : Nat), (x_fs ad g κs m i).length = κs.length
  | [], _ => rfl
  | _ :: r, i => by simp [x_fs, x_fs_len ad g m r (i + 1)]
theorem x_fs_at (ad : Nat → Nat) (g : Nat) (m : Nat → Int32) : ∀ (κs : List Nat) (i j : Nat), (x_fs ad g κs m i)[j]? = (κs[j]?).map (fun κ => x_fv ad g κ (m (i + j)))
  | [], i, j => by simp [x_fs]
  | κ :: r, i, 0 => by simp [x_fs]
  | κ :: r, i, j + 1 => by
    simp only [x_fs, List.getElem?_cons_succ, x_fs_at ad g m r (i + 1) j]
    congr 1
    funext κ
    congr 2
    omega
/-- a write in one place of one group: what the world's cells are then -/
theorem x_P_set {cc : ClassId × ClassId} {ad : Nat → Nat} {shs : XSs} {hs : List Mem} {A : Nat → Prop} {D : va_G} {H1 : Heap} {i k : Nat} {sh : XSh} {m' : Mem} {e : va_E} (hi : shs[i]? = some (k, sh)) (hD : va_D A (x_w cc ad shs hs)) (hm : k / 64 < hs.length) (hsame : ∀ p, p ≠ k % 64 → m' p = (hs.getD (k / 64) (fun _ _ => 0)) p) (he : x_cell cc ad k sh (m' (k % 64)) = e) (h : va_P D vwCl ((x_w cc ad shs hs).set i (ad k, e)) H1) : va_P D vwCl (x_w cc ad shs (hs.set (k / 64) m')) H1 := by
  intro j q hq
  obtain ⟨k2, sh2, hj, rfl⟩ := x_w_of hq
  by_cases hij : i = j
  · subst hij
    cases hi.symm.trans hj
    have hl : i < (x_w cc ad shs hs).length := (List.getElem?_eq_some_iff.mp (x_w_at (cc := cc) (ad := ad) (hs := hs) hi)).1
    have h1 := h i (ad k, e) (by rw [List.getElem?_set_self hl])
    rw [← he] at h1
    have e1 : x_hs (hs.set (k / 64) m') k = m' (k % 64) := by
      unfold x_hs
      congr 1
      simp [List.getD, List.getElem?_set_self hm]
    rw [e1]
    exact h1
  · have hk : k2 ≠ k := fun z => hij (x_uniq hD hi hj (by rw [z]))
    have h1 := h j _ (by rw [List.getElem?_set_ne hij]; exact x_w_at (cc := cc) (ad := ad) (hs := hs) hj)
    have e1 : x_hs (hs.set (k / 64) m') k2 = x_hs hs k2 := by
      unfold x_hs
      by_cases hg : k / 64 = k2 / 64
      · have hp : k2 % 64 ≠ k % 64 := fun z => hk (by omega)
        rw [← hg]
        simp only [List.getD, List.getElem?_set_self hm, Option.getD_some]
        exact hsame _ hp
      · congr 1
        simp [List.getD, List.getElem?_set_ne hg]
    rw [e1]
    exact h1
theorem x_D_any {cc : ClassId × ClassId} {ad : Nat → Nat} {shs : XSs} {hs hs' : List Mem} {A : Nat → Prop} (hD : va_D A (x_w cc ad shs hs)) : va_D A (x_w cc ad shs hs') := by
  refine ⟨fun i j p q hi hj hpq => ?_, fun i q hi => ?_⟩
  · obtain ⟨k, sh, h1, rfl⟩ := x_w_of hi
    obtain ⟨k2, sh2, h2, rfl⟩ := x_w_of hj
    exact x_uniq hD h1 h2 hpq
  · obtain ⟨k, sh, h1, rfl⟩ := x_w_of hi
    have h2 := hD.2 i _ (x_w_at (cc := cc) (ad := ad) (hs := hs) h1)
    exact h2

theorem XE_iconst {α R : Type} {B : XB} {M : XM} {Q : R → State → Prop} {pc n : Nat} {ls : XLs} {st : List Value} {cs : Nat × Nat} {shs : XSs} {hs : List Mem} {k : α → Option R} {o : Option α} {i : Int} {v : Int32} (hd : decode M.2.1 pc = .ok (.iconst i, 1)) (hn : pc + 1 = n) (hv : Int32.ofInt i = v) (kk : XE B M Q n ls (.int v :: st) cs shs hs k o) : XE B M Q pc ls (st) cs shs hs k o := by
  subst hn
  obtain ⟨p, l, e, Rm, s, m, args, below, meth, c, D, cc, A, H0, ad0, shs0⟩ := B
  intro hO ad H locs lsA hP hD hS hA hL r hr
  exact lv_iconst hO.1 hO.2.1 hd hv (kk hO ad H locs lsA hP hD hS hA hL r hr)
theorem XE_bipush {α R : Type} {B : XB} {M : XM} {Q : R → State → Prop} {pc n : Nat} {ls : XLs} {st : List Value} {cs : Nat × Nat} {shs : XSs} {hs : List Mem} {k : α → Option R} {o : Option α} {i : Int} {v : Int32} (hd : decode M.2.1 pc = .ok (.bipush i, 2)) (hn : pc + 2 = n) (hv : (Int8.ofInt i).toInt32 = v) (kk : XE B M Q n ls (.int v :: st) cs shs hs k o) : XE B M Q pc ls (st) cs shs hs k o := by
  subst hn
  obtain ⟨p, l, e, Rm, s, m, args, below, meth, c, D, cc, A, H0, ad0, shs0⟩ := B
  intro hO ad H locs lsA hP hD hS hA hL r hr
  exact lv_bipush hO.1 hO.2.1 hd hv (kk hO ad H locs lsA hP hD hS hA hL r hr)
theorem XE_sipush {α R : Type} {B : XB} {M : XM} {Q : R → State → Prop} {pc n : Nat} {ls : XLs} {st : List Value} {cs : Nat × Nat} {shs : XSs} {hs : List Mem} {k : α → Option R} {o : Option α} {i : Int} {v : Int32} (hd : decode M.2.1 pc = .ok (.sipush i, 3)) (hn : pc + 3 = n) (hv : (Int16.ofInt i).toInt32 = v) (kk : XE B M Q n ls (.int v :: st) cs shs hs k o) : XE B M Q pc ls (st) cs shs hs k o := by
  subst hn
  obtain ⟨p, l, e, Rm, s, m, args, below, meth, c, D, cc, A, H0, ad0, shs0⟩ := B
  intro hO ad H locs lsA hP hD hS hA hL r hr
  exact lv_sipush hO.1 hO.2.1 hd hv (kk hO ad H locs lsA hP hD hS hA hL r hr)
theorem XE_lconst {α R : Type} {B : XB} {M : XM} {Q : R → State → Prop} {pc n : Nat} {ls : XLs} {st : List Value} {cs : Nat × Nat} {shs : XSs} {hs : List Mem} {k : α → Option R} {o : Option α} {i : Fin 2} {v : Int64} (hd : decode M.2.1 pc = .ok (.lconst i, 1)) (hn : pc + 1 = n) (hv : Int64.ofNat (i : Nat) = v) (kk : XE B M Q n ls (.long v :: st) cs shs hs k o) : XE B M Q pc ls (st) cs shs hs k o := by
  subst hn
  obtain ⟨p, l, e, Rm, s, m, args, below, meth, c, D, cc, A, H0, ad0, shs0⟩ := B
  intro hO ad H locs lsA hP hD hS hA hL r hr
  exact lv_lconst hO.1 hO.2.1 hd hv (kk hO ad H locs lsA hP hD hS hA hL r hr)
theorem XE_iadd {α R : Type} {B : XB} {M : XM} {Q : R → State → Prop} {pc n : Nat} {ls : XLs} {st : List Value} {cs : Nat × Nat} {shs : XSs} {hs : List Mem} {k : α → Option R} {o : Option α} {x y : Int32} (hd : decode M.2.1 pc = .ok (.iadd, 1)) (hn : pc + 1 = n) (kk : XE B M Q n ls (.int (x + y) :: st) cs shs hs k o) : XE B M Q pc ls (.int y :: .int x :: st) cs shs hs k o := by
  subst hn
  obtain ⟨p, l, e, Rm, s, m, args, below, meth, c, D, cc, A, H0, ad0, shs0⟩ := B
  intro hO ad H locs lsA hP hD hS hA hL r hr
  exact lv_iadd hO.1 hO.2.1 hd  (kk hO ad H locs lsA hP hD hS hA hL r hr)
theorem XE_isub {α R : Type} {B : XB} {M : XM} {Q : R → State → Prop} {pc n : Nat} {ls : XLs} {st : List Value} {cs : Nat × Nat} {shs : XSs} {hs : List Mem} {k : α → Option R} {o : Option α} {x y : Int32} (hd : decode M.2.1 pc = .ok (.isub, 1)) (hn : pc + 1 = n) (kk : XE B M Q n ls (.int (x - y) :: st) cs shs hs k o) : XE B M Q pc ls (.int y :: .int x :: st) cs shs hs k o := by
  subst hn
  obtain ⟨p, l, e, Rm, s, m, args, below, meth, c, D, cc, A, H0, ad0, shs0⟩ := B
  intro hO ad H locs lsA hP hD hS hA hL r hr
  exact lv_isub hO.1 hO.2.1 hd  (kk hO ad H locs lsA hP hD hS hA hL r hr)
theorem XE_imul {α R : Type} {B : XB} {M : XM} {Q : R → State → Prop} {pc n : Nat} {ls : XLs} {st : List Value} {cs : Nat × Nat} {shs : XSs} {hs : List Mem} {k : α → Option R} {o : Option α} {x y : Int32} (hd : decode M.2.1 pc = .ok (.imul, 1)) (hn : pc + 1 = n) (kk : XE B M Q n ls (.int (x * y) :: st) cs shs hs k o) : XE B M Q pc ls (.int y :: .int x :: st) cs shs hs k o := by
  subst hn
  obtain ⟨p, l, e, Rm, s, m, args, below, meth, c, D, cc, A, H0, ad0, shs0⟩ := B
  intro hO ad H locs lsA hP hD hS hA hL r hr
  exact lv_imul hO.1 hO.2.1 hd  (kk hO ad H locs lsA hP hD hS hA hL r hr)
theorem XE_iand {α R : Type} {B : XB} {M : XM} {Q : R → State → Prop} {pc n : Nat} {ls : XLs} {st : List Value} {cs : Nat × Nat} {shs : XSs} {hs : List Mem} {k : α → Option R} {o : Option α} {x y : Int32} (hd : decode M.2.1 pc = .ok (.iand, 1)) (hn : pc + 1 = n) (kk : XE B M Q n ls (.int (x &&& y) :: st) cs shs hs k o) : XE B M Q pc ls (.int y :: .int x :: st) cs shs hs k o := by
  subst hn
  obtain ⟨p, l, e, Rm, s, m, args, below, meth, c, D, cc, A, H0, ad0, shs0⟩ := B
  intro hO ad H locs lsA hP hD hS hA hL r hr
  exact lv_iand hO.1 hO.2.1 hd  (kk hO ad H locs lsA hP hD hS hA hL r hr)
theorem XE_ior {α R : Type} {B : XB} {M : XM} {Q : R → State → Prop} {pc n : Nat} {ls : XLs} {st : List Value} {cs : Nat × Nat} {shs : XSs} {hs : List Mem} {k : α → Option R} {o : Option α} {x y : Int32} (hd : decode M.2.1 pc = .ok (.ior, 1)) (hn : pc + 1 = n) (kk : XE B M Q n ls (.int (x ||| y) :: st) cs shs hs k o) : XE B M Q pc ls (.int y :: .int x :: st) cs shs hs k o := by
  subst hn
  obtain ⟨p, l, e, Rm, s, m, args, below, meth, c, D, cc, A, H0, ad0, shs0⟩ := B
  intro hO ad H locs lsA hP hD hS hA hL r hr
  exact lv_ior hO.1 hO.2.1 hd  (kk hO ad H locs lsA hP hD hS hA hL r hr)
theorem XE_ishl {α R : Type} {B : XB} {M : XM} {Q : R → State → Prop} {pc n : Nat} {ls : XLs} {st : List Value} {cs : Nat × Nat} {shs : XSs} {hs : List Mem} {k : α → Option R} {o : Option α} {x y : Int32} (hd : decode M.2.1 pc = .ok (.ishl, 1)) (hn : pc + 1 = n) (kk : XE B M Q n ls (.int (x <<< (y &&& 31)) :: st) cs shs hs k o) : XE B M Q pc ls (.int y :: .int x :: st) cs shs hs k o := by
  subst hn
  obtain ⟨p, l, e, Rm, s, m, args, below, meth, c, D, cc, A, H0, ad0, shs0⟩ := B
  intro hO ad H locs lsA hP hD hS hA hL r hr
  exact lv_ishl hO.1 hO.2.1 hd  (kk hO ad H locs lsA hP hD hS hA hL r hr)
theorem XE_ishr {α R : Type} {B : XB} {M : XM} {Q : R → State → Prop} {pc n : Nat} {ls : XLs} {st : List Value} {cs : Nat × Nat} {shs : XSs} {hs : List Mem} {k : α → Option R} {o : Option α} {x y : Int32} (hd : decode M.2.1 pc = .ok (.ishr, 1)) (hn : pc + 1 = n) (kk : XE B M Q n ls (.int (x >>> (y &&& 31)) :: st) cs shs hs k o) : XE B M Q pc ls (.int y :: .int x :: st) cs shs hs k o := by
  subst hn
  obtain ⟨p, l, e, Rm, s, m, args, below, meth, c, D, cc, A, H0, ad0, shs0⟩ := B
  intro hO ad H locs lsA hP hD hS hA hL r hr
  exact lv_ishr hO.1 hO.2.1 hd  (kk hO ad H locs lsA hP hD hS hA hL r hr)
theorem XE_idiv {α R : Type} {B : XB} {M : XM} {Q : R → State → Prop} {pc n : Nat} {ls : XLs} {st : List Value} {cs : Nat × Nat} {shs : XSs} {hs : List Mem} {k : α → Option R} {o : Option α} {x y : Int32} (hd : decode M.2.1 pc = .ok (.idiv, 1)) (hn : pc + 1 = n) (hne : ¬ y = 0) (kk : XE B M Q n ls (.int (x / y) :: st) cs shs hs k o) : XE B M Q pc ls (.int y :: .int x :: st) cs shs hs k o := by
  subst hn
  obtain ⟨p, l, e, Rm, s, m, args, below, meth, c, D, cc, A, H0, ad0, shs0⟩ := B
  intro hO ad H locs lsA hP hD hS hA hL r hr
  exact lv_idiv hO.1 hO.2.1 hd hne (kk hO ad H locs lsA hP hD hS hA hL r hr)
theorem XE_irem {α R : Type} {B : XB} {M : XM} {Q : R → State → Prop} {pc n : Nat} {ls : XLs} {st : List Value} {cs : Nat × Nat} {shs : XSs} {hs : List Mem} {k : α → Option R} {o : Option α} {x y : Int32} (hd : decode M.2.1 pc = .ok (.irem, 1)) (hn : pc + 1 = n) (hne : ¬ y = 0) (kk : XE B M Q n ls (.int (x - x / y * y) :: st) cs shs hs k o) : XE B M Q pc ls (.int y :: .int x :: st) cs shs hs k o := by
  subst hn
  obtain ⟨p, l, e, Rm, s, m, args, below, meth, c, D, cc, A, H0, ad0, shs0⟩ := B
  intro hO ad H locs lsA hP hD hS hA hL r hr
  exact lv_irem hO.1 hO.2.1 hd hne (kk hO ad H locs lsA hP hD hS hA hL r hr)
theorem XE_ineg {α R : Type} {B : XB} {M : XM} {Q : R → State → Prop} {pc n : Nat} {ls : XLs} {st : List Value} {cs : Nat × Nat} {shs : XSs} {hs : List Mem} {k : α → Option R} {o : Option α} {x : Int32} (hd : decode M.2.1 pc = .ok (.ineg, 1)) (hn : pc + 1 = n) (kk : XE B M Q n ls (.int (-x) :: st) cs shs hs k o) : XE B M Q pc ls (.int x :: st) cs shs hs k o := by
  subst hn
  obtain ⟨p, l, e, Rm, s, m, args, below, meth, c, D, cc, A, H0, ad0, shs0⟩ := B
  intro hO ad H locs lsA hP hD hS hA hL r hr
  exact lv_ineg hO.1 hO.2.1 hd  (kk hO ad H locs lsA hP hD hS hA hL r hr)
theorem XE_iushr {α R : Type} {B : XB} {M : XM} {Q : R → State → Prop} {pc n : Nat} {ls : XLs} {st : List Value} {cs : Nat × Nat} {shs : XSs} {hs : List Mem} {k : α → Option R} {o : Option α} {x y v : Int32} (hd : decode M.2.1 pc = .ok (.iushr, 1)) (hn : pc + 1 = n) (hv : (x.toUInt32 >>> (y.toUInt32 &&& Int32.toUInt32 31)).toInt32 = v) (kk : XE B M Q n ls (.int v :: st) cs shs hs k o) : XE B M Q pc ls (.int y :: .int x :: st) cs shs hs k o := by
  subst hn
  obtain ⟨p, l, e, Rm, s, m, args, below, meth, c, D, cc, A, H0, ad0, shs0⟩ := B
  intro hO ad H locs lsA hP hD hS hA hL r hr
  exact lv_iushr hO.1 hO.2.1 hd hv (kk hO ad H locs lsA hP hD hS hA hL r hr)
theorem XE_i2l {α R : Type} {B : XB} {M : XM} {Q : R → State → Prop} {pc n : Nat} {ls : XLs} {st : List Value} {cs : Nat × Nat} {shs : XSs} {hs : List Mem} {k : α → Option R} {o : Option α} {x : Int32} (hd : decode M.2.1 pc = .ok (.i2l, 1)) (hn : pc + 1 = n) (kk : XE B M Q n ls (.long x.toInt64 :: st) cs shs hs k o) : XE B M Q pc ls (.int x :: st) cs shs hs k o := by
  subst hn
  obtain ⟨p, l, e, Rm, s, m, args, below, meth, c, D, cc, A, H0, ad0, shs0⟩ := B
  intro hO ad H locs lsA hP hD hS hA hL r hr
  exact lv_i2l hO.1 hO.2.1 hd rfl (kk hO ad H locs lsA hP hD hS hA hL r hr)
theorem XE_ladd {α R : Type} {B : XB} {M : XM} {Q : R → State → Prop} {pc n : Nat} {ls : XLs} {st : List Value} {cs : Nat × Nat} {shs : XSs} {hs : List Mem} {k : α → Option R} {o : Option α} {x y : Int64} (hd : decode M.2.1 pc = .ok (.ladd, 1)) (hn : pc + 1 = n) (kk : XE B M Q n ls (.long (x + y) :: st) cs shs hs k o) : XE B M Q pc ls (.long y :: .long x :: st) cs shs hs k o := by
  subst hn
  obtain ⟨p, l, e, Rm, s, m, args, below, meth, c, D, cc, A, H0, ad0, shs0⟩ := B
  intro hO ad H locs lsA hP hD hS hA hL r hr
  exact lv_ladd hO.1 hO.2.1 hd  (kk hO ad H locs lsA hP hD hS hA hL r hr)
theorem XE_lsub {α R : Type} {B : XB} {M : XM} {Q : R → State → Prop} {pc n : Nat} {ls : XLs} {st : List Value} {cs : Nat × Nat} {shs : XSs} {hs : List Mem} {k : α → Option R} {o : Option α} {x y : Int64} (hd : decode M.2.1 pc = .ok (.lsub, 1)) (hn : pc + 1 = n) (kk : XE B M Q n ls (.long (x - y) :: st) cs shs hs k o) : XE B M Q pc ls (.long y :: .long x :: st) cs shs hs k o := by
  subst hn
  obtain ⟨p, l, e, Rm, s, m, args, below, meth, c, D, cc, A, H0, ad0, shs0⟩ := B
  intro hO ad H locs lsA hP hD hS hA hL r hr
  exact lv_lsub hO.1 hO.2.1 hd  (kk hO ad H locs lsA hP hD hS hA hL r hr)
theorem XE_lmul {α R : Type} {B : XB} {M : XM} {Q : R → State → Prop} {pc n : Nat} {ls : XLs} {st : List Value} {cs : Nat × Nat} {shs : XSs} {hs : List Mem} {k : α → Option R} {o : Option α} {x y : Int64} (hd : decode M.2.1 pc = .ok (.lmul, 1)) (hn : pc + 1 = n) (kk : XE B M Q n ls (.long (x * y) :: st) cs shs hs k o) : XE B M Q pc ls (.long y :: .long x :: st) cs shs hs k o := by
  subst hn
  obtain ⟨p, l, e, Rm, s, m, args, below, meth, c, D, cc, A, H0, ad0, shs0⟩ := B
  intro hO ad H locs lsA hP hD hS hA hL r hr
  exact lv_lmul hO.1 hO.2.1 hd  (kk hO ad H locs lsA hP hD hS hA hL r hr)
theorem XE_lcmp {α R : Type} {B : XB} {M : XM} {Q : R → State → Prop} {pc n : Nat} {ls : XLs} {st : List Value} {cs : Nat × Nat} {shs : XSs} {hs : List Mem} {k : α → Option R} {o : Option α} {x y : Int64} (hd : decode M.2.1 pc = .ok (.lcmp, 1)) (hn : pc + 1 = n) (kk : XE B M Q n ls (.int (lg_cmp x y) :: st) cs shs hs k o) : XE B M Q pc ls (.long y :: .long x :: st) cs shs hs k o := by
  subst hn
  obtain ⟨p, l, e, Rm, s, m, args, below, meth, c, D, cc, A, H0, ad0, shs0⟩ := B
  intro hO ad H locs lsA hP hD hS hA hL r hr
  exact W.lcmp hO.1 hO.2.1 hd  (kk hO ad H locs lsA hP hD hS hA hL r hr)
theorem XE_dup {α R : Type} {B : XB} {M : XM} {Q : R → State → Prop} {pc n : Nat} {ls : XLs} {st : List Value} {cs : Nat × Nat} {shs : XSs} {hs : List Mem} {k : α → Option R} {o : Option α} {v : Value} (hd : decode M.2.1 pc = .ok (.dup, 1)) (hn : pc + 1 = n) (hv : v.category = 1) (kk : XE B M Q n ls (v :: v :: st) cs shs hs k o) : XE B M Q pc ls (v :: st) cs shs hs k o := by
  subst hn
  obtain ⟨p, l, e, Rm, s, m, args, below, meth, c, D, cc, A, H0, ad0, shs0⟩ := B
  intro hO ad H locs lsA hP hD hS hA hL r hr
  exact lv_dup hO.1 hO.2.1 hd ((x_cv_cat _ _).trans hv) (kk hO ad H locs lsA hP hD hS hA hL r hr)
theorem XE_pop {α R : Type} {B : XB} {M : XM} {Q : R → State → Prop} {pc n : Nat} {ls : XLs} {st : List Value} {cs : Nat × Nat} {shs : XSs} {hs : List Mem} {k : α → Option R} {o : Option α} {v : Value} (hd : decode M.2.1 pc = .ok (.pop, 1)) (hn : pc + 1 = n) (hv : v.category = 1) (kk : XE B M Q n ls (st) cs shs hs k o) : XE B M Q pc ls (v :: st) cs shs hs k o := by
  subst hn
  obtain ⟨p, l, e, Rm, s, m, args, below, meth, c, D, cc, A, H0, ad0, shs0⟩ := B
  intro hO ad H locs lsA hP hD hS hA hL r hr
  exact lv_pop hO.1 hO.2.1 hd ((x_cv_cat _ _).trans hv) (kk hO ad H locs lsA hP hD hS hA hL r hr)
theorem XE_dup2 {α R : Type} {B : XB} {M : XM} {Q : R → State → Prop} {pc n : Nat} {ls : XLs} {st : List Value} {cs : Nat × Nat} {shs : XSs} {hs : List Mem} {k : α → Option R} {o : Option α} {v u : Value} (hd : decode M.2.1 pc = .ok (.dup2, 1)) (hn : pc + 1 = n) (hv : v.category = 1) (hu : u.category = 1) (kk : XE B M Q n ls (v :: u :: v :: u :: st) cs shs hs k o) : XE B M Q pc ls (v :: u :: st) cs shs hs k o := by
  subst hn
  obtain ⟨p, l, e, Rm, s, m, args, below, meth, c, D, cc, A, H0, ad0, shs0⟩ := B
  intro hO ad H locs lsA hP hD hS hA hL r hr
  exact lv_dup2_11 hO.1 hO.2.1 hd ((x_cv_cat _ _).trans hv) ((x_cv_cat _ _).trans hu) (kk hO ad H locs lsA hP hD hS hA hL r hr)
theorem XE_ldiv {α R : Type} {B : XB} {M : XM} {Q : R → State → Prop} {pc n : Nat} {ls : XLs} {st : List Value} {cs : Nat × Nat} {shs : XSs} {hs : List Mem} {k : α → Option R} {o : Option α} {x y : Int64} (hd : decode M.2.1 pc = .ok (.ldiv, 1)) (hn : pc + 1 = n) (kk : XE B M Q n ls (.long (x / y) :: st) cs shs hs k o) : XE B M Q pc ls (.long y :: .long x :: st) cs shs hs k (ck (!decide (y = 0)) o) := by
  subst hn
  obtain ⟨p, l, e, Rm, s, m, args, below, meth, c, D, cc, A, H0, ad0, shs0⟩ := B
  intro hO ad H locs lsA hP hD hS hA hL r hr
  by_cases hy : y = 0
  · simp [ck, hy] at hr
  · simp only [ck, hy, decide_false, Bool.not_false, if_true] at hr
    exact lv_ldiv hO.1 hO.2.1 hd hy (kk hO ad H locs lsA hP hD hS hA hL r hr)
theorem XE_idiv_ck {α R : Type} {B : XB} {M : XM} {Q : R → State → Prop} {pc n : Nat} {ls : XLs} {st : List Value} {cs : Nat × Nat} {shs : XSs} {hs : List Mem} {k : α → Option R} {o : Option α} {x y : Int32} (hd : decode M.2.1 pc = .ok (.idiv, 1)) (hn : pc + 1 = n) (kk : XE B M Q n ls (.int (x / y) :: st) cs shs hs k o) : XE B M Q pc ls (.int y :: .int x :: st) cs shs hs k (ck (!decide (y = 0)) o) := by
  subst hn
  obtain ⟨p, l, e, Rm, s, m, args, below, meth, c, D, cc, A, H0, ad0, shs0⟩ := B
  intro hO ad H locs lsA hP hD hS hA hL r hr
  by_cases hy : y = 0
  · simp [ck, hy] at hr
  · simp only [ck, hy, decide_false, Bool.not_false, if_true] at hr
    exact lv_idiv hO.1 hO.2.1 hd hy (kk hO ad H locs lsA hP hD hS hA hL r hr)
theorem XE_lrem {α R : Type} {B : XB} {M : XM} {Q : R → State → Prop} {pc n : Nat} {ls : XLs} {st : List Value} {cs : Nat × Nat} {shs : XSs} {hs : List Mem} {k : α → Option R} {o : Option α} {x y : Int64} (hd : decode M.2.1 pc = .ok (.lrem, 1)) (hn : pc + 1 = n) (kk : XE B M Q n ls (.long (x - x / y * y) :: st) cs shs hs k o) : XE B M Q pc ls (.long y :: .long x :: st) cs shs hs k (ck (!decide (y = 0)) o) := by
  subst hn
  obtain ⟨p, l, e, Rm, s, m, args, below, meth, c, D, cc, A, H0, ad0, shs0⟩ := B
  intro hO ad H locs lsA hP hD hS hA hL r hr
  by_cases hy : y = 0
  · simp [ck, hy] at hr
  · simp only [ck, hy, decide_false, Bool.not_false, if_true] at hr
    exact lv_lrem hO.1 hO.2.1 hd hy (kk hO ad H locs lsA hP hD hS hA hL r hr)
theorem XE_irem_ck {α R : Type} {B : XB} {M : XM} {Q : R → State → Prop} {pc n : Nat} {ls : XLs} {st : List Value} {cs : Nat × Nat} {shs : XSs} {hs : List Mem} {k : α → Option R} {o : Option α} {x y : Int32} (hd : decode M.2.1 pc = .ok (.irem, 1)) (hn : pc + 1 = n) (kk : XE B M Q n ls (.int (x - x / y * y) :: st) cs shs hs k o) : XE B M Q pc ls (.int y :: .int x :: st) cs shs hs k (ck (!decide (y = 0)) o) := by
  subst hn
  obtain ⟨p, l, e, Rm, s, m, args, below, meth, c, D, cc, A, H0, ad0, shs0⟩ := B
  intro hO ad H locs lsA hP hD hS hA hL r hr
  by_cases hy : y = 0
  · simp [ck, hy] at hr
  · simp only [ck, hy, decide_false, Bool.not_false, if_true] at hr
    exact lv_irem hO.1 hO.2.1 hd hy (kk hO ad H locs lsA hP hD hS hA hL r hr)
theorem XE_ldc {α R : Type} {B : XB} {M : XM} {Q : R → State → Prop} {pc n : Nat} {ls : XLs} {st : List Value} {cs : Nat × Nat} {shs : XSs} {hs : List Mem} {k : α → Option R} {o : Option α} {i : Nat} {v : Int32} (hd : decode M.2.1 pc = .ok (.ldc i, 2)) (hn : pc + 2 = n) (hc : Cond.constant M.1 i v ∈ xT) (kk : XE B M Q n ls (.int v :: st) cs shs hs k o) : XE B M Q pc ls (st) cs shs hs k o := by
  subst hn
  obtain ⟨p, l, e, Rm, s, m, args, below, meth, c, D, cc, A, H0, ad0, shs0⟩ := B
  intro hO ad H locs lsA hP hD hS hA hL r hr
  exact lv_ldc hO.1 hO.2.1 hO.2.2.2.1 (hO.2.2.2.2.1 _ hc) hd (kk hO ad H locs lsA hP hD hS hA hL r hr)
theorem XE_ldc_w {α R : Type} {B : XB} {M : XM} {Q : R → State → Prop} {pc n : Nat} {ls : XLs} {st : List Value} {cs : Nat × Nat} {shs : XSs} {hs : List Mem} {k : α → Option R} {o : Option α} {i : Nat} {v : Int32} (hd : decode M.2.1 pc = .ok (.ldc_w i, 3)) (hn : pc + 3 = n) (hc : Cond.constant M.1 i v ∈ xT) (kk : XE B M Q n ls (.int v :: st) cs shs hs k o) : XE B M Q pc ls (st) cs shs hs k o := by
  subst hn
  obtain ⟨p, l, e, Rm, s, m, args, below, meth, c, D, cc, A, H0, ad0, shs0⟩ := B
  intro hO ad H locs lsA hP hD hS hA hL r hr
  exact lv_ldcw hO.1 hO.2.1 hO.2.2.2.1 (hO.2.2.2.2.1 _ hc) hd (kk hO ad H locs lsA hP hD hS hA hL r hr)
theorem XE_ldc2 {α R : Type} {B : XB} {M : XM} {Q : R → State → Prop} {pc n : Nat} {ls : XLs} {st : List Value} {cs : Nat × Nat} {shs : XSs} {hs : List Mem} {k : α → Option R} {o : Option α} {i : Nat} {v : Int64} (hd : decode M.2.1 pc = .ok (.ldc2_w i, 3)) (hn : pc + 3 = n) (hc : Cond.constantLong M.1 i v ∈ xT) (kk : XE B M Q n ls (.long v :: st) cs shs hs k o) : XE B M Q pc ls (st) cs shs hs k o := by
  subst hn
  obtain ⟨p, l, e, Rm, s, m, args, below, meth, c, D, cc, A, H0, ad0, shs0⟩ := B
  intro hO ad H locs lsA hP hD hS hA hL r hr
  exact lv_ldc2 hO.1 hO.2.1 hO.2.2.2.1 (hO.2.2.2.2.1 _ hc) hd (kk hO ad H locs lsA hP hD hS hA hL r hr)
theorem XE_iload_n {α R : Type} {B : XB} {M : XM} {Q : R → State → Prop} {pc n : Nat} {ls : XLs} {st : List Value} {cs : Nat × Nat} {shs : XSs} {hs : List Mem} {k : α → Option R} {o : Option α} {f : Fin 4} {i : Nat} {x : Int32} (hd : decode M.2.1 pc = .ok (.iload_n f, 1)) (hn : pc + 1 = n) (hf : (f : Nat) = i) (hl : xlk ls i = some (.int x)) (kk : XE B M Q n ls (.int x :: st) cs shs hs k o) : XE B M Q pc ls (st) cs shs hs k o := by
  subst hn
  obtain ⟨p, l, e, Rm, s, m, args, below, meth, c, D, cc, A, H0, ad0, shs0⟩ := B
  intro hO ad H locs lsA hP hD hS hA hL r hr
  exact lv_iload_n hO.1 hO.2.1 hd hf (hL.at hl) (kk hO ad H locs lsA hP hD hS hA hL r hr)
theorem XE_iload {α R : Type} {B : XB} {M : XM} {Q : R → State → Prop} {pc n : Nat} {ls : XLs} {st : List Value} {cs : Nat × Nat} {shs : XSs} {hs : List Mem} {k : α → Option R} {o : Option α} {i : Nat} {x : Int32} (hd : decode M.2.1 pc = .ok (.iload i, 2)) (hn : pc + 2 = n) (hl : xlk ls i = some (.int x)) (kk : XE B M Q n ls (.int x :: st) cs shs hs k o) : XE B M Q pc ls (st) cs shs hs k o := by
  subst hn
  obtain ⟨p, l, e, Rm, s, m, args, below, meth, c, D, cc, A, H0, ad0, shs0⟩ := B
  intro hO ad H locs lsA hP hD hS hA hL r hr
  exact lv_iload hO.1 hO.2.1 hd (hL.at hl) (kk hO ad H locs lsA hP hD hS hA hL r hr)
theorem XE_istore_n {α R : Type} {B : XB} {M : XM} {Q : R → State → Prop} {pc n : Nat} {ls : XLs} {st : List Value} {cs : Nat × Nat} {shs : XSs} {hs : List Mem} {k : α → Option R} {o : Option α} {f : Fin 4} {i : Nat} {x : Int32} (hd : decode M.2.1 pc = .ok (.istore_n f, 1)) (hn : pc + 1 = n) (hf : (f : Nat) = i) (hb : i < M.2.2.1) (hq : x_nl ls i = true) (kk : XE B M Q n ((i, some (.int x)) :: ls) (st) cs shs hs k o) : XE B M Q pc ls (.int x :: st) cs shs hs k o := by
  subst hn
  obtain ⟨p, l, e, Rm, s, m, args, below, meth, c, D, cc, A, H0, ad0, shs0⟩ := B
  intro hO ad H locs lsA hP hD hS hA hL r hr
  obtain ⟨l0, hl1, hl2⟩ := hL
  exact lv_istore_n hO.1 hO.2.1 hd hf hl1 hb rfl (fun ls' hl' => kk hO ad H locs ls' hP hD hS hA (x_ls.put (ls := ls) (v := .int x) hl2 hq hl') r hr)
theorem XE_istore {α R : Type} {B : XB} {M : XM} {Q : R → State → Prop} {pc n : Nat} {ls : XLs} {st : List Value} {cs : Nat × Nat} {shs : XSs} {hs : List Mem} {k : α → Option R} {o : Option α} {i : Nat} {x : Int32} (hd : decode M.2.1 pc = .ok (.istore i, 2)) (hn : pc + 2 = n) (hb : i < M.2.2.1) (hq : x_nl ls i = true) (kk : XE B M Q n ((i, some (.int x)) :: ls) (st) cs shs hs k o) : XE B M Q pc ls (.int x :: st) cs shs hs k o := by
  subst hn
  obtain ⟨p, l, e, Rm, s, m, args, below, meth, c, D, cc, A, H0, ad0, shs0⟩ := B
  intro hO ad H locs lsA hP hD hS hA hL r hr
  obtain ⟨l0, hl1, hl2⟩ := hL
  exact lv_istore hO.1 hO.2.1 hd hl1 hb rfl (fun ls' hl' => kk hO ad H locs ls' hP hD hS hA (x_ls.put (ls := ls) (v := .int x) hl2 hq hl') r hr)
theorem XE_lload_n {α R : Type} {B : XB} {M : XM} {Q : R → State → Prop} {pc n : Nat} {ls : XLs} {st : List Value} {cs : Nat × Nat} {shs : XSs} {hs : List Mem} {k : α → Option R} {o : Option α} {f : Fin 4} {i : Nat} {x : Int64} (hd : decode M.2.1 pc = .ok (.lload_n f, 1)) (hn : pc + 1 = n) (hf : (f : Nat) = i) (hl : xlk ls i = some (.long x)) (kk : XE B M Q n ls (.long x :: st) cs shs hs k o) : XE B M Q pc ls (st) cs shs hs k o := by
  subst hn
  obtain ⟨p, l, e, Rm, s, m, args, below, meth, c, D, cc, A, H0, ad0, shs0⟩ := B
  intro hO ad H locs lsA hP hD hS hA hL r hr
  exact lv_lload_n hO.1 hO.2.1 hd hf (hL.at hl) (kk hO ad H locs lsA hP hD hS hA hL r hr)
theorem XE_lload {α R : Type} {B : XB} {M : XM} {Q : R → State → Prop} {pc n : Nat} {ls : XLs} {st : List Value} {cs : Nat × Nat} {shs : XSs} {hs : List Mem} {k : α → Option R} {o : Option α} {i : Nat} {x : Int64} (hd : decode M.2.1 pc = .ok (.lload i, 2)) (hn : pc + 2 = n) (hl : xlk ls i = some (.long x)) (kk : XE B M Q n ls (.long x :: st) cs shs hs k o) : XE B M Q pc ls (st) cs shs hs k o := by
  subst hn
  obtain ⟨p, l, e, Rm, s, m, args, below, meth, c, D, cc, A, H0, ad0, shs0⟩ := B
  intro hO ad H locs lsA hP hD hS hA hL r hr
  exact lv_lload hO.1 hO.2.1 hd (hL.at hl) (kk hO ad H locs lsA hP hD hS hA hL r hr)
theorem XE_lstore_n {α R : Type} {B : XB} {M : XM} {Q : R → State → Prop} {pc n : Nat} {ls : XLs} {st : List Value} {cs : Nat × Nat} {shs : XSs} {hs : List Mem} {k : α → Option R} {o : Option α} {f : Fin 4} {i : Nat} {x : Int64} (hd : decode M.2.1 pc = .ok (.lstore_n f, 1)) (hn : pc + 1 = n) (hf : (f : Nat) = i) (hb : i + 1 < M.2.2.1) (hq : x_nl ls i = true) (kk : XE B M Q n ((i, some (.long x)) :: (i + 1, none) :: ls) (st) cs shs hs k o) : XE B M Q pc ls (.long x :: st) cs shs hs k o := by
  subst hn
  obtain ⟨p, l, e, Rm, s, m, args, below, meth, c, D, cc, A, H0, ad0, shs0⟩ := B
  intro hO ad H locs lsA hP hD hS hA hL r hr
  obtain ⟨l0, hl1, hl2⟩ := hL
  exact lv_lstore_n hO.1 hO.2.1 hd hf hl1 hb rfl (fun ls' hl' => kk hO ad H locs ls' hP hD hS hA (x_ls.putL (ls := ls) (v := .long x) hl2 hq hl') r hr)
theorem XE_lstore {α R : Type} {B : XB} {M : XM} {Q : R → State → Prop} {pc n : Nat} {ls : XLs} {st : List Value} {cs : Nat × Nat} {shs : XSs} {hs : List Mem} {k : α → Option R} {o : Option α} {i : Nat} {x : Int64} (hd : decode M.2.1 pc = .ok (.lstore i, 2)) (hn : pc + 2 = n) (hb : i + 1 < M.2.2.1) (hq : x_nl ls i = true) (kk : XE B M Q n ((i, some (.long x)) :: (i + 1, none) :: ls) (st) cs shs hs k o) : XE B M Q pc ls (.long x :: st) cs shs hs k o := by
  subst hn
  obtain ⟨p, l, e, Rm, s, m, args, below, meth, c, D, cc, A, H0, ad0, shs0⟩ := B
  intro hO ad H locs lsA hP hD hS hA hL r hr
  obtain ⟨l0, hl1, hl2⟩ := hL
  exact lv_lstore hO.1 hO.2.1 hd hl1 hb rfl (fun ls' hl' => kk hO ad H locs ls' hP hD hS hA (x_ls.putL (ls := ls) (v := .long x) hl2 hq hl') r hr)
theorem XE_aload_n {α R : Type} {B : XB} {M : XM} {Q : R → State → Prop} {pc n : Nat} {ls : XLs} {st : List Value} {cs : Nat × Nat} {shs : XSs} {hs : List Mem} {k : α → Option R} {o : Option α} {f : Fin 4} {i : Nat} {x : Nat} (hd : decode M.2.1 pc = .ok (.aload_n f, 1)) (hn : pc + 1 = n) (hf : (f : Nat) = i) (hl : xlk ls i = some (.ref x)) (kk : XE B M Q n ls (.ref x :: st) cs shs hs k o) : XE B M Q pc ls (st) cs shs hs k o := by
  subst hn
  obtain ⟨p, l, e, Rm, s, m, args, below, meth, c, D, cc, A, H0, ad0, shs0⟩ := B
  intro hO ad H locs lsA hP hD hS hA hL r hr
  exact lv_aload_n hO.1 hO.2.1 hd hf (hL.at hl) (kk hO ad H locs lsA hP hD hS hA hL r hr)
theorem XE_aload {α R : Type} {B : XB} {M : XM} {Q : R → State → Prop} {pc n : Nat} {ls : XLs} {st : List Value} {cs : Nat × Nat} {shs : XSs} {hs : List Mem} {k : α → Option R} {o : Option α} {i : Nat} {x : Nat} (hd : decode M.2.1 pc = .ok (.aload i, 2)) (hn : pc + 2 = n) (hl : xlk ls i = some (.ref x)) (kk : XE B M Q n ls (.ref x :: st) cs shs hs k o) : XE B M Q pc ls (st) cs shs hs k o := by
  subst hn
  obtain ⟨p, l, e, Rm, s, m, args, below, meth, c, D, cc, A, H0, ad0, shs0⟩ := B
  intro hO ad H locs lsA hP hD hS hA hL r hr
  exact lv_aload hO.1 hO.2.1 hd (hL.at hl) (kk hO ad H locs lsA hP hD hS hA hL r hr)
theorem XE_astore_n {α R : Type} {B : XB} {M : XM} {Q : R → State → Prop} {pc n : Nat} {ls : XLs} {st : List Value} {cs : Nat × Nat} {shs : XSs} {hs : List Mem} {k : α → Option R} {o : Option α} {f : Fin 4} {i : Nat} {x : Nat} (hd : decode M.2.1 pc = .ok (.astore_n f, 1)) (hn : pc + 1 = n) (hf : (f : Nat) = i) (hb : i < M.2.2.1) (hq : x_nl ls i = true) (kk : XE B M Q n ((i, some (.ref x)) :: ls) (st) cs shs hs k o) : XE B M Q pc ls (.ref x :: st) cs shs hs k o := by
  subst hn
  obtain ⟨p, l, e, Rm, s, m, args, below, meth, c, D, cc, A, H0, ad0, shs0⟩ := B
  intro hO ad H locs lsA hP hD hS hA hL r hr
  obtain ⟨l0, hl1, hl2⟩ := hL
  exact lv_astore_n hO.1 hO.2.1 hd hf hl1 hb rfl (fun ls' hl' => kk hO ad H locs ls' hP hD hS hA (x_ls.put (ls := ls) (v := .ref x) hl2 hq hl') r hr)
theorem XE_astore {α R : Type} {B : XB} {M : XM} {Q : R → State → Prop} {pc n : Nat} {ls : XLs} {st : List Value} {cs : Nat × Nat} {shs : XSs} {hs : List Mem} {k : α → Option R} {o : Option α} {i : Nat} {x : Nat} (hd : decode M.2.1 pc = .ok (.astore i, 2)) (hn : pc + 2 = n) (hb : i < M.2.2.1) (hq : x_nl ls i = true) (kk : XE B M Q n ((i, some (.ref x)) :: ls) (st) cs shs hs k o) : XE B M Q pc ls (.ref x :: st) cs shs hs k o := by
  subst hn
  obtain ⟨p, l, e, Rm, s, m, args, below, meth, c, D, cc, A, H0, ad0, shs0⟩ := B
  intro hO ad H locs lsA hP hD hS hA hL r hr
  obtain ⟨l0, hl1, hl2⟩ := hL
  exact lv_astore hO.1 hO.2.1 hd hl1 hb rfl (fun ls' hl' => kk hO ad H locs ls' hP hD hS hA (x_ls.put (ls := ls) (v := .ref x) hl2 hq hl') r hr)
theorem XE_iinc {α R : Type} {B : XB} {M : XM} {Q : R → State → Prop} {pc n : Nat} {ls : XLs} {st : List Value} {cs : Nat × Nat} {shs : XSs} {hs : List Mem} {k : α → Option R} {o : Option α} {i : Nat} {z : Int} {x v : Int32} (hd : decode M.2.1 pc = .ok (.iinc i z, 3)) (hn : pc + 3 = n) (hl : xlk ls i = some (.int x)) (hv : x + Int32.ofInt z = v) (hb : i < M.2.2.1) (hq : x_nl ls i = true) (kk : XE B M Q n ((i, some (.int v)) :: ls) (st) cs shs hs k o) : XE B M Q pc ls (st) cs shs hs k o := by
  subst hn
  obtain ⟨p, l, e, Rm, s, m, args, below, meth, c, D, cc, A, H0, ad0, shs0⟩ := B
  intro hO ad H locs lsA hP hD hS hA hL r hr
  obtain ⟨l0, hl1, hl2⟩ := hL
  obtain ⟨j, hj⟩ := List.getElem?_of_mem (hl2 _ _ hl)
  exact lv_iinc hO.1 hO.2.1 hd hl1 hj hv hb rfl (fun ls' hl' => kk hO ad H locs ls' hP hD hS hA (x_ls.put (ls := ls) (v := .int v) hl2 hq hl') r hr)
theorem XE_ls {α R : Type} {B : XB} {M : XM} {Q : R → State → Prop} {pc n : Nat} {ls : XLs} {st : List Value} {cs : Nat × Nat} {shs : XSs} {hs : List Mem} {k : α → Option R} {o : Option α} {ls' : XLs} (h : ∀ i v, xlk ls' i = some v → xlk ls i = some v) (kk : XE B M Q pc ls' (st) cs shs hs k o) : XE B M Q pc ls (st) cs shs hs k o := by
  obtain ⟨p, l, e, Rm, s, m, args, below, meth, c, D, cc, A, H0, ad0, shs0⟩ := B
  intro hO ad H locs lsA hP hD hS hA hL r hr
  obtain ⟨l0, hl1, hl2⟩ := hL
  exact kk hO ad H locs lsA hP hD hS hA ⟨l0, hl1, fun i v hi => hl2 i v (h i v hi)⟩ r hr
/-- fewer locals: each of the new list is in the old one -/
def x_sub (ls : XLs) : XLs → Prop
  | [] => True
  | q :: r => (match q.2 with
    | none => True
    | some v => xlk ls q.1 = some v) ∧ x_sub ls r
theorem x_sub_ok {ls : XLs} : ∀ {ls' : XLs}, x_sub ls ls' → ∀ i v, xlk ls' i = some v → xlk ls i = some v
  | [], _, i, v, h => by cases h
  | q :: r, hs, i, v, h => by
    unfold xlk at h
    by_cases e : q.1 = i
    · rw [if_pos e] at h
      have h1 := hs.1
      rw [h] at h1
      rw [← e]; exact h1
    · rw [if_neg e] at h
      exact x_sub_ok hs.2 i v h
theorem XE_if_eq {α R : Type} {B : XB} {M : XM} {Q : R → State → Prop} {pc n : Nat} {ls : XLs} {st : List Value} {cs : Nat × Nat} {shs : XSs} {hs : List Mem} {k : α → Option R} {o : Option α} {t : Nat} {off : Int} {x : Int32} {o1 o2 : Option α} [inst : Decidable (x = 0)] (hd : decode M.2.1 pc = .ok (.ifCond .eq off, 3)) (hn : pc + 3 = n) (ht : (pc : Int) + off = (t : Int)) (kt : x = 0 → XE B M Q t ls (st) cs shs hs k o1) (kf : ¬ x = 0 → XE B M Q n ls (st) cs shs hs k o2) : XE B M Q pc ls (.int x :: st) cs shs hs k (if x = 0 then o1 else o2) := by
  subst hn
  obtain ⟨p, l, e, Rm, s, m, args, below, meth, c, D, cc, A, H0, ad0, shs0⟩ := B
  intro hO ad H locs lsA hP hD hS hA hL r hr
  exact lv_if_eq hO.1 hO.2.1 hd ht (fun h => kt h hO ad H locs lsA hP hD hS hA hL r (by rw [if_pos h] at hr; exact hr)) (fun h => kf h hO ad H locs lsA hP hD hS hA hL r (by rw [if_neg h] at hr; exact hr))
theorem XE_if_eq_T {α R : Type} {B : XB} {M : XM} {Q : R → State → Prop} {pc n : Nat} {ls : XLs} {st : List Value} {cs : Nat × Nat} {shs : XSs} {hs : List Mem} {k : α → Option R} {o : Option α} {t : Nat} {off : Int} {x : Int32} (hd : decode M.2.1 pc = .ok (.ifCond .eq off, 3)) (ht : (pc : Int) + off = (t : Int)) (hc : (x = 0)) (kk : XE B M Q t ls (st) cs shs hs k o) : XE B M Q pc ls (.int x :: st) cs shs hs k o := by
  obtain ⟨p, l, e, Rm, s, m, args, below, meth, c, D, cc, A, H0, ad0, shs0⟩ := B
  intro hO ad H locs lsA hP hD hS hA hL r hr
  exact lv_if_eq hO.1 hO.2.1 hd ht (fun _ => kk hO ad H locs lsA hP hD hS hA hL r hr) (fun h => absurd hc h)
theorem XE_if_eq_F {α R : Type} {B : XB} {M : XM} {Q : R → State → Prop} {pc n : Nat} {ls : XLs} {st : List Value} {cs : Nat × Nat} {shs : XSs} {hs : List Mem} {k : α → Option R} {o : Option α} {t : Nat} {off : Int} {x : Int32} (hd : decode M.2.1 pc = .ok (.ifCond .eq off, 3)) (hn : pc + 3 = n) (ht : (pc : Int) + off = (t : Int)) (hc : ¬ (x = 0)) (kk : XE B M Q n ls (st) cs shs hs k o) : XE B M Q pc ls (.int x :: st) cs shs hs k o := by
  subst hn
  obtain ⟨p, l, e, Rm, s, m, args, below, meth, c, D, cc, A, H0, ad0, shs0⟩ := B
  intro hO ad H locs lsA hP hD hS hA hL r hr
  exact lv_if_eq hO.1 hO.2.1 hd ht (fun h => absurd h hc) (fun _ => kk hO ad H locs lsA hP hD hS hA hL r hr)
theorem XE_icmp_eq {α R : Type} {B : XB} {M : XM} {Q : R → State → Prop} {pc n : Nat} {ls : XLs} {st : List Value} {cs : Nat × Nat} {shs : XSs} {hs : List Mem} {k : α → Option R} {o : Option α} {t : Nat} {off : Int} {x y : Int32} {o1 o2 : Option α} [inst : Decidable (x = y)] (hd : decode M.2.1 pc = .ok (.if_icmp .eq off, 3)) (hn : pc + 3 = n) (ht : (pc : Int) + off = (t : Int)) (kt : x = y → XE B M Q t ls (st) cs shs hs k o1) (kf : ¬ x = y → XE B M Q n ls (st) cs shs hs k o2) : XE B M Q pc ls (.int y :: .int x :: st) cs shs hs k (if x = y then o1 else o2) := by
  subst hn
  obtain ⟨p, l, e, Rm, s, m, args, below, meth, c, D, cc, A, H0, ad0, shs0⟩ := B
  intro hO ad H locs lsA hP hD hS hA hL r hr
  exact lv_icmp_eq hO.1 hO.2.1 hd ht (fun h => kt h hO ad H locs lsA hP hD hS hA hL r (by rw [if_pos h] at hr; exact hr)) (fun h => kf h hO ad H locs lsA hP hD hS hA hL r (by rw [if_neg h] at hr; exact hr))
theorem XE_icmp_eq_T {α R : Type} {B : XB} {M : XM} {Q : R → State → Prop} {pc n : Nat} {ls : XLs} {st : List Value} {cs : Nat × Nat} {shs : XSs} {hs : List Mem} {k : α → Option R} {o : Option α} {t : Nat} {off : Int} {x y : Int32} (hd : decode M.2.1 pc = .ok (.if_icmp .eq off, 3)) (ht : (pc : Int) + off = (t : Int)) (hc : (x = y)) (kk : XE B M Q t ls (st) cs shs hs k o) : XE B M Q pc ls (.int y :: .int x :: st) cs shs hs k o := by
  obtain ⟨p, l, e, Rm, s, m, args, below, meth, c, D, cc, A, H0, ad0, shs0⟩ := B
  intro hO ad H locs lsA hP hD hS hA hL r hr
  exact lv_icmp_eq hO.1 hO.2.1 hd ht (fun _ => kk hO ad H locs lsA hP hD hS hA hL r hr) (fun h => absurd hc h)
theorem XE_icmp_eq_F {α R : Type} {B : XB} {M : XM} {Q : R → State → Prop} {pc n : Nat} {ls : XLs} {st : List Value} {cs : Nat × Nat} {shs : XSs} {hs : List Mem} {k : α → Option R} {o : Option α} {t : Nat} {off : Int} {x y : Int32} (hd : decode M.2.1 pc = .ok (.if_icmp .eq off, 3)) (hn : pc + 3 = n) (ht : (pc : Int) + off = (t : Int)) (hc : ¬ (x = y)) (kk : XE B M Q n ls (st) cs shs hs k o) : XE B M Q pc ls (.int y :: .int x :: st) cs shs hs k o := by
  subst hn
  obtain ⟨p, l, e, Rm, s, m, args, below, meth, c, D, cc, A, H0, ad0, shs0⟩ := B
  intro hO ad H locs lsA hP hD hS hA hL r hr
  exact lv_icmp_eq hO.1 hO.2.1 hd ht (fun h => absurd h hc) (fun _ => kk hO ad H locs lsA hP hD hS hA hL r hr)
theorem XE_if_ne {α R : Type} {B : XB} {M : XM} {Q : R → State → Prop} {pc n : Nat} {ls : XLs} {st : List Value} {cs : Nat × Nat} {shs : XSs} {hs : List Mem} {k : α → Option R} {o : Option α} {t : Nat} {off : Int} {x : Int32} {o1 o2 : Option α} [inst : Decidable (x = 0)] (hd : decode M.2.1 pc = .ok (.ifCond .ne off, 3)) (hn : pc + 3 = n) (ht : (pc : Int) + off = (t : Int)) (kt : x = 0 → XE B M Q n ls (st) cs shs hs k o1) (kf : ¬ x = 0 → XE B M Q t ls (st) cs shs hs k o2) : XE B M Q pc ls (.int x :: st) cs shs hs k (if x = 0 then o1 else o2) := by
  subst hn
  obtain ⟨p, l, e, Rm, s, m, args, below, meth, c, D, cc, A, H0, ad0, shs0⟩ := B
  intro hO ad H locs lsA hP hD hS hA hL r hr
  exact lv_if_ne hO.1 hO.2.1 hd ht (fun h => kf h hO ad H locs lsA hP hD hS hA hL r (by rw [if_neg h] at hr; exact hr)) (fun h => kt h hO ad H locs lsA hP hD hS hA hL r (by rw [if_pos h] at hr; exact hr))
theorem XE_if_ne_T {α R : Type} {B : XB} {M : XM} {Q : R → State → Prop} {pc n : Nat} {ls : XLs} {st : List Value} {cs : Nat × Nat} {shs : XSs} {hs : List Mem} {k : α → Option R} {o : Option α} {t : Nat} {off : Int} {x : Int32} (hd : decode M.2.1 pc = .ok (.ifCond .ne off, 3)) (ht : (pc : Int) + off = (t : Int)) (hc : ¬ (x = 0)) (kk : XE B M Q t ls (st) cs shs hs k o) : XE B M Q pc ls (.int x :: st) cs shs hs k o := by
  obtain ⟨p, l, e, Rm, s, m, args, below, meth, c, D, cc, A, H0, ad0, shs0⟩ := B
  intro hO ad H locs lsA hP hD hS hA hL r hr
  exact lv_if_ne hO.1 hO.2.1 hd ht (fun _ => kk hO ad H locs lsA hP hD hS hA hL r hr) (fun h => absurd h hc)
theorem XE_if_ne_F {α R : Type} {B : XB} {M : XM} {Q : R → State → Prop} {pc n : Nat} {ls : XLs} {st : List Value} {cs : Nat × Nat} {shs : XSs} {hs : List Mem} {k : α → Option R} {o : Option α} {t : Nat} {off : Int} {x : Int32} (hd : decode M.2.1 pc = .ok (.ifCond .ne off, 3)) (hn : pc + 3 = n) (ht : (pc : Int) + off = (t : Int)) (hc : (x = 0)) (kk : XE B M Q n ls (st) cs shs hs k o) : XE B M Q pc ls (.int x :: st) cs shs hs k o := by
  subst hn
  obtain ⟨p, l, e, Rm, s, m, args, below, meth, c, D, cc, A, H0, ad0, shs0⟩ := B
  intro hO ad H locs lsA hP hD hS hA hL r hr
  exact lv_if_ne hO.1 hO.2.1 hd ht (fun h => absurd hc h) (fun _ => kk hO ad H locs lsA hP hD hS hA hL r hr)
theorem XE_icmp_ne {α R : Type} {B : XB} {M : XM} {Q : R → State → Prop} {pc n : Nat} {ls : XLs} {st : List Value} {cs : Nat × Nat} {shs : XSs} {hs : List Mem} {k : α → Option R} {o : Option α} {t : Nat} {off : Int} {x y : Int32} {o1 o2 : Option α} [inst : Decidable (x = y)] (hd : decode M.2.1 pc = .ok (.if_icmp .ne off, 3)) (hn : pc + 3 = n) (ht : (pc : Int) + off = (t : Int)) (kt : x = y → XE B M Q n ls (st) cs shs hs k o1) (kf : ¬ x = y → XE B M Q t ls (st) cs shs hs k o2) : XE B M Q pc ls (.int y :: .int x :: st) cs shs hs k (if x = y then o1 else o2) := by
  subst hn
  obtain ⟨p, l, e, Rm, s, m, args, below, meth, c, D, cc, A, H0, ad0, shs0⟩ := B
  intro hO ad H locs lsA hP hD hS hA hL r hr
  exact lv_icmp_ne hO.1 hO.2.1 hd ht (fun h => kf h hO ad H locs lsA hP hD hS hA hL r (by rw [if_neg h] at hr; exact hr)) (fun h => kt h hO ad H locs lsA hP hD hS hA hL r (by rw [if_pos h] at hr; exact hr))
theorem XE_icmp_ne_T {α R : Type} {B : XB} {M : XM} {Q : R → State → Prop} {pc n : Nat} {ls : XLs} {st : List Value} {cs : Nat × Nat} {shs : XSs} {hs : List Mem} {k : α → Option R} {o : Option α} {t : Nat} {off : Int} {x y : Int32} (hd : decode M.2.1 pc = .ok (.if_icmp .ne off, 3)) (ht : (pc : Int) + off = (t : Int)) (hc : ¬ (x = y)) (kk : XE B M Q t ls (st) cs shs hs k o) : XE B M Q pc ls (.int y :: .int x :: st) cs shs hs k o := by
  obtain ⟨p, l, e, Rm, s, m, args, below, meth, c, D, cc, A, H0, ad0, shs0⟩ := B
  intro hO ad H locs lsA hP hD hS hA hL r hr
  exact lv_icmp_ne hO.1 hO.2.1 hd ht (fun _ => kk hO ad H locs lsA hP hD hS hA hL r hr) (fun h => absurd h hc)
theorem XE_icmp_ne_F {α R : Type} {B : XB} {M : XM} {Q : R → State → Prop} {pc n : Nat} {ls : XLs} {st : List Value} {cs : Nat × Nat} {shs : XSs} {hs : List Mem} {k : α → Option R} {o : Option α} {t : Nat} {off : Int} {x y : Int32} (hd : decode M.2.1 pc = .ok (.if_icmp .ne off, 3)) (hn : pc + 3 = n) (ht : (pc : Int) + off = (t : Int)) (hc : (x = y)) (kk : XE B M Q n ls (st) cs shs hs k o) : XE B M Q pc ls (.int y :: .int x :: st) cs shs hs k o := by
  subst hn
  obtain ⟨p, l, e, Rm, s, m, args, below, meth, c, D, cc, A, H0, ad0, shs0⟩ := B
  intro hO ad H locs lsA hP hD hS hA hL r hr
  exact lv_icmp_ne hO.1 hO.2.1 hd ht (fun h => absurd hc h) (fun _ => kk hO ad H locs lsA hP hD hS hA hL r hr)
theorem XE_if_lt {α R : Type} {B : XB} {M : XM} {Q : R → State → Prop} {pc n : Nat} {ls : XLs} {st : List Value} {cs : Nat × Nat} {shs : XSs} {hs : List Mem} {k : α → Option R} {o : Option α} {t : Nat} {off : Int} {x : Int32} {o1 o2 : Option α} [inst : Decidable (x < 0)] (hd : decode M.2.1 pc = .ok (.ifCond .lt off, 3)) (hn : pc + 3 = n) (ht : (pc : Int) + off = (t : Int)) (kt : x < 0 → XE B M Q t ls (st) cs shs hs k o1) (kf : ¬ x < 0 → XE B M Q n ls (st) cs shs hs k o2) : XE B M Q pc ls (.int x :: st) cs shs hs k (if x < 0 then o1 else o2) := by
  subst hn
  obtain ⟨p, l, e, Rm, s, m, args, below, meth, c, D, cc, A, H0, ad0, shs0⟩ := B
  intro hO ad H locs lsA hP hD hS hA hL r hr
  exact lv_if_lt hO.1 hO.2.1 hd ht (fun h => kt h hO ad H locs lsA hP hD hS hA hL r (by rw [if_pos h] at hr; exact hr)) (fun h => kf h hO ad H locs lsA hP hD hS hA hL r (by rw [if_neg h] at hr; exact hr))
theorem XE_if_lt_T {α R : Type} {B : XB} {M : XM} {Q : R → State → Prop} {pc n : Nat} {ls : XLs} {st : List Value} {cs : Nat × Nat} {shs : XSs} {hs : List Mem} {k : α → Option R} {o : Option α} {t : Nat} {off : Int} {x : Int32} (hd : decode M.2.1 pc = .ok (.ifCond .lt off, 3)) (ht : (pc : Int) + off = (t : Int)) (hc : (x < 0)) (kk : XE B M Q t ls (st) cs shs hs k o) : XE B M Q pc ls (.int x :: st) cs shs hs k o := by
  obtain ⟨p, l, e, Rm, s, m, args, below, meth, c, D, cc, A, H0, ad0, shs0⟩ := B
  intro hO ad H locs lsA hP hD hS hA hL r hr
  exact lv_if_lt hO.1 hO.2.1 hd ht (fun _ => kk hO ad H locs lsA hP hD hS hA hL r hr) (fun h => absurd hc h)
theorem XE_if_lt_F {α R : Type} {B : XB} {M : XM} {Q : R → State → Prop} {pc n : Nat} {ls : XLs} {st : List Value} {cs : Nat × Nat} {shs : XSs} {hs : List Mem} {k : α → Option R} {o : Option α} {t : Nat} {off : Int} {x : Int32} (hd : decode M.2.1 pc = .ok (.ifCond .lt off, 3)) (hn : pc + 3 = n) (ht : (pc : Int) + off = (t : Int)) (hc : ¬ (x < 0)) (kk : XE B M Q n ls (st) cs shs hs k o) : XE B M Q pc ls (.int x :: st) cs shs hs k o := by
  subst hn
  obtain ⟨p, l, e, Rm, s, m, args, below, meth, c, D, cc, A, H0, ad0, shs0⟩ := B
  intro hO ad H locs lsA hP hD hS hA hL r hr
  exact lv_if_lt hO.1 hO.2.1 hd ht (fun h => absurd h hc) (fun _ => kk hO ad H locs lsA hP hD hS hA hL r hr)
theorem XE_icmp_lt {α R : Type} {B : XB} {M : XM} {Q : R → State → Prop} {pc n : Nat} {ls : XLs} {st : List Value} {cs : Nat × Nat} {shs : XSs} {hs : List Mem} {k : α → Option R} {o : Option α} {t : Nat} {off : Int} {x y : Int32} {o1 o2 : Option α} [inst : Decidable (x < y)] (hd : decode M.2.1 pc = .ok (.if_icmp .lt off, 3)) (hn : pc + 3 = n) (ht : (pc : Int) + off = (t : Int)) (kt : x < y → XE B M Q t ls (st) cs shs hs k o1) (kf : ¬ x < y → XE B M Q n ls (st) cs shs hs k o2) : XE B M Q pc ls (.int y :: .int x :: st) cs shs hs k (if x < y then o1 else o2) := by
  subst hn
  obtain ⟨p, l, e, Rm, s, m, args, below, meth, c, D, cc, A, H0, ad0, shs0⟩ := B
  intro hO ad H locs lsA hP hD hS hA hL r hr
  exact lv_icmp_lt hO.1 hO.2.1 hd ht (fun h => kt h hO ad H locs lsA hP hD hS hA hL r (by rw [if_pos h] at hr; exact hr)) (fun h => kf h hO ad H locs lsA hP hD hS hA hL r (by rw [if_neg h] at hr; exact hr))
theorem XE_icmp_lt_T {α R : Type} {B : XB} {M : XM} {Q : R → State → Prop} {pc n : Nat} {ls : XLs} {st : List Value} {cs : Nat × Nat} {shs : XSs} {hs : List Mem} {k : α → Option R} {o : Option α} {t : Nat} {off : Int} {x y : Int32} (hd : decode M.2.1 pc = .ok (.if_icmp .lt off, 3)) (ht : (pc : Int) + off = (t : Int)) (hc : (x < y)) (kk : XE B M Q t ls (st) cs shs hs k o) : XE B M Q pc ls (.int y :: .int x :: st) cs shs hs k o := by
  obtain ⟨p, l, e, Rm, s, m, args, below, meth, c, D, cc, A, H0, ad0, shs0⟩ := B
  intro hO ad H locs lsA hP hD hS hA hL r hr
  exact lv_icmp_lt hO.1 hO.2.1 hd ht (fun _ => kk hO ad H locs lsA hP hD hS hA hL r hr) (fun h => absurd hc h)
theorem XE_icmp_lt_F {α R : Type} {B : XB} {M : XM} {Q : R → State → Prop} {pc n : Nat} {ls : XLs} {st : List Value} {cs : Nat × Nat} {shs : XSs} {hs : List Mem} {k : α → Option R} {o : Option α} {t : Nat} {off : Int} {x y : Int32} (hd : decode M.2.1 pc = .ok (.if_icmp .lt off, 3)) (hn : pc + 3 = n) (ht : (pc : Int) + off = (t : Int)) (hc : ¬ (x < y)) (kk : XE B M Q n ls (st) cs shs hs k o) : XE B M Q pc ls (.int y :: .int x :: st) cs shs hs k o := by
  subst hn
  obtain ⟨p, l, e, Rm, s, m, args, below, meth, c, D, cc, A, H0, ad0, shs0⟩ := B
  intro hO ad H locs lsA hP hD hS hA hL r hr
  exact lv_icmp_lt hO.1 hO.2.1 hd ht (fun h => absurd h hc) (fun _ => kk hO ad H locs lsA hP hD hS hA hL r hr)
theorem XE_if_ge {α R : Type} {B : XB} {M : XM} {Q : R → State → Prop} {pc n : Nat} {ls : XLs} {st : List Value} {cs : Nat × Nat} {shs : XSs} {hs : List Mem} {k : α → Option R} {o : Option α} {t : Nat} {off : Int} {x : Int32} {o1 o2 : Option α} [inst : Decidable (0 ≤ x)] (hd : decode M.2.1 pc = .ok (.ifCond .ge off, 3)) (hn : pc + 3 = n) (ht : (pc : Int) + off = (t : Int)) (kt : 0 ≤ x → XE B M Q t ls (st) cs shs hs k o1) (kf : ¬ 0 ≤ x → XE B M Q n ls (st) cs shs hs k o2) : XE B M Q pc ls (.int x :: st) cs shs hs k (if 0 ≤ x then o1 else o2) := by
  subst hn
  obtain ⟨p, l, e, Rm, s, m, args, below, meth, c, D, cc, A, H0, ad0, shs0⟩ := B
  intro hO ad H locs lsA hP hD hS hA hL r hr
  exact lv_if_ge hO.1 hO.2.1 hd ht (fun h => kt h hO ad H locs lsA hP hD hS hA hL r (by rw [if_pos h] at hr; exact hr)) (fun h => kf h hO ad H locs lsA hP hD hS hA hL r (by rw [if_neg h] at hr; exact hr))
theorem XE_if_ge_T {α R : Type} {B : XB} {M : XM} {Q : R → State → Prop} {pc n : Nat} {ls : XLs} {st : List Value} {cs : Nat × Nat} {shs : XSs} {hs : List Mem} {k : α → Option R} {o : Option α} {t : Nat} {off : Int} {x : Int32} (hd : decode M.2.1 pc = .ok (.ifCond .ge off, 3)) (ht : (pc : Int) + off = (t : Int)) (hc : (0 ≤ x)) (kk : XE B M Q t ls (st) cs shs hs k o) : XE B M Q pc ls (.int x :: st) cs shs hs k o := by
  obtain ⟨p, l, e, Rm, s, m, args, below, meth, c, D, cc, A, H0, ad0, shs0⟩ := B
  intro hO ad H locs lsA hP hD hS hA hL r hr
  exact lv_if_ge hO.1 hO.2.1 hd ht (fun _ => kk hO ad H locs lsA hP hD hS hA hL r hr) (fun h => absurd hc h)
theorem XE_if_ge_F {α R : Type} {B : XB} {M : XM} {Q : R → State → Prop} {pc n : Nat} {ls : XLs} {st : List Value} {cs : Nat × Nat} {shs : XSs} {hs : List Mem} {k : α → Option R} {o : Option α} {t : Nat} {off : Int} {x : Int32} (hd : decode M.2.1 pc = .ok (.ifCond .ge off, 3)) (hn : pc + 3 = n) (ht : (pc : Int) + off = (t : Int)) (hc : ¬ (0 ≤ x)) (kk : XE B M Q n ls (st) cs shs hs k o) : XE B M Q pc ls (.int x :: st) cs shs hs k o := by
  subst hn
  obtain ⟨p, l, e, Rm, s, m, args, below, meth, c, D, cc, A, H0, ad0, shs0⟩ := B
  intro hO ad H locs lsA hP hD hS hA hL r hr
  exact lv_if_ge hO.1 hO.2.1 hd ht (fun h => absurd h hc) (fun _ => kk hO ad H locs lsA hP hD hS hA hL r hr)
theorem XE_icmp_ge {α R : Type} {B : XB} {M : XM} {Q : R → State → Prop} {pc n : Nat} {ls : XLs} {st : List Value} {cs : Nat × Nat} {shs : XSs} {hs : List Mem} {k : α → Option R} {o : Option α} {t : Nat} {off : Int} {x y : Int32} {o1 o2 : Option α} [inst : Decidable (y ≤ x)] (hd : decode M.2.1 pc = .ok (.if_icmp .ge off, 3)) (hn : pc + 3 = n) (ht : (pc : Int) + off = (t : Int)) (kt : y ≤ x → XE B M Q t ls (st) cs shs hs k o1) (kf : ¬ y ≤ x → XE B M Q n ls (st) cs shs hs k o2) : XE B M Q pc ls (.int y :: .int x :: st) cs shs hs k (if y ≤ x then o1 else o2) := by
  subst hn
  obtain ⟨p, l, e, Rm, s, m, args, below, meth, c, D, cc, A, H0, ad0, shs0⟩ := B
  intro hO ad H locs lsA hP hD hS hA hL r hr
  exact lv_icmp_ge hO.1 hO.2.1 hd ht (fun h => kt h hO ad H locs lsA hP hD hS hA hL r (by rw [if_pos h] at hr; exact hr)) (fun h => kf h hO ad H locs lsA hP hD hS hA hL r (by rw [if_neg h] at hr; exact hr))
theorem XE_icmp_ge_T {α R : Type} {B : XB} {M : XM} {Q : R → State → Prop} {pc n : Nat} {ls : XLs} {st : List Value} {cs : Nat × Nat} {shs : XSs} {hs : List Mem} {k : α → Option R} {o : Option α} {t : Nat} {off : Int} {x y : Int32} (hd : decode M.2.1 pc = .ok (.if_icmp .ge off, 3)) (ht : (pc : Int) + off = (t : Int)) (hc : (y ≤ x)) (kk : XE B M Q t ls (st) cs shs hs k o) : XE B M Q pc ls (.int y :: .int x :: st) cs shs hs k o := by
  obtain ⟨p, l, e, Rm, s, m, args, below, meth, c, D, cc, A, H0, ad0, shs0⟩ := B
  intro hO ad H locs lsA hP hD hS hA hL r hr
  exact lv_icmp_ge hO.1 hO.2.1 hd ht (fun _ => kk hO ad H locs lsA hP hD hS hA hL r hr) (fun h => absurd hc h)
theorem XE_icmp_ge_F {α R : Type} {B : XB} {M : XM} {Q : R → State → Prop} {pc n : Nat} {ls : XLs} {st : List Value} {cs : Nat × Nat} {shs : XSs} {hs : List Mem} {k : α → Option R} {o : Option α} {t : Nat} {off : Int} {x y : Int32} (hd : decode M.2.1 pc = .ok (.if_icmp .ge off, 3)) (hn : pc + 3 = n) (ht : (pc : Int) + off = (t : Int)) (hc : ¬ (y ≤ x)) (kk : XE B M Q n ls (st) cs shs hs k o) : XE B M Q pc ls (.int y :: .int x :: st) cs shs hs k o := by
  subst hn
  obtain ⟨p, l, e, Rm, s, m, args, below, meth, c, D, cc, A, H0, ad0, shs0⟩ := B
  intro hO ad H locs lsA hP hD hS hA hL r hr
  exact lv_icmp_ge hO.1 hO.2.1 hd ht (fun h => absurd h hc) (fun _ => kk hO ad H locs lsA hP hD hS hA hL r hr)
theorem XE_if_gt {α R : Type} {B : XB} {M : XM} {Q : R → State → Prop} {pc n : Nat} {ls : XLs} {st : List Value} {cs : Nat × Nat} {shs : XSs} {hs : List Mem} {k : α → Option R} {o : Option α} {t : Nat} {off : Int} {x : Int32} {o1 o2 : Option α} [inst : Decidable (0 < x)] (hd : decode M.2.1 pc = .ok (.ifCond .gt off, 3)) (hn : pc + 3 = n) (ht : (pc : Int) + off = (t : Int)) (kt : 0 < x → XE B M Q t ls (st) cs shs hs k o1) (kf : ¬ 0 < x → XE B M Q n ls (st) cs shs hs k o2) : XE B M Q pc ls (.int x :: st) cs shs hs k (if 0 < x then o1 else o2) := by
  subst hn
  obtain ⟨p, l, e, Rm, s, m, args, below, meth, c, D, cc, A, H0, ad0, shs0⟩ := B
  intro hO ad H locs lsA hP hD hS hA hL r hr
  exact lv_if_gt hO.1 hO.2.1 hd ht (fun h => kt h hO ad H locs lsA hP hD hS hA hL r (by rw [if_pos h] at hr; exact hr)) (fun h => kf h hO ad H locs lsA hP hD hS hA hL r (by rw [if_neg h] at hr; exact hr))
theorem XE_if_gt_T {α R : Type} {B : XB} {M : XM} {Q : R → State → Prop} {pc n : Nat} {ls : XLs} {st : List Value} {cs : Nat × Nat} {shs : XSs} {hs : List Mem} {k : α → Option R} {o : Option α} {t : Nat} {off : Int} {x : Int32} (hd : decode M.2.1 pc = .ok (.ifCond .gt off, 3)) (ht : (pc : Int) + off = (t : Int)) (hc : (0 < x)) (kk : XE B M Q t ls (st) cs shs hs k o) : XE B M Q pc ls (.int x :: st) cs shs hs k o := by
  obtain ⟨p, l, e, Rm, s, m, args, below, meth, c, D, cc, A, H0, ad0, shs0⟩ := B
  intro hO ad H locs lsA hP hD hS hA hL r hr
  exact lv_if_gt hO.1 hO.2.1 hd ht (fun _ => kk hO ad H locs lsA hP hD hS hA hL r hr) (fun h => absurd hc h)
theorem XE_if_gt_F {α R : Type} {B : XB} {M : XM} {Q : R → State → Prop} {pc n : Nat} {ls : XLs} {st : List Value} {cs : Nat × Nat} {shs : XSs} {hs : List Mem} {k : α → Option R} {o : Option α} {t : Nat} {off : Int} {x : Int32} (hd : decode M.2.1 pc = .ok (.ifCond .gt off, 3)) (hn : pc + 3 = n) (ht : (pc : Int) + off = (t : Int)) (hc : ¬ (0 < x)) (kk : XE B M Q n ls (st) cs shs hs k o) : XE B M Q pc ls (.int x :: st) cs shs hs k o := by
  subst hn
  obtain ⟨p, l, e, Rm, s, m, args, below, meth, c, D, cc, A, H0, ad0, shs0⟩ := B
  intro hO ad H locs lsA hP hD hS hA hL r hr
  exact lv_if_gt hO.1 hO.2.1 hd ht (fun h => absurd h hc) (fun _ => kk hO ad H locs lsA hP hD hS hA hL r hr)
theorem XE_icmp_gt {α R : Type} {B : XB} {M : XM} {Q : R → State → Prop} {pc n : Nat} {ls : XLs} {st : List Value} {cs : Nat × Nat} {shs : XSs} {hs : List Mem} {k : α → Option R} {o : Option α} {t : Nat} {off : Int} {x y : Int32} {o1 o2 : Option α} [inst : Decidable (y < x)] (hd : decode M.2.1 pc = .ok (.if_icmp .gt off, 3)) (hn : pc + 3 = n) (ht : (pc : Int) + off = (t : Int)) (kt : y < x → XE B M Q t ls (st) cs shs hs k o1) (kf : ¬ y < x → XE B M Q n ls (st) cs shs hs k o2) : XE B M Q pc ls (.int y :: .int x :: st) cs shs hs k (if y < x then o1 else o2) := by
  subst hn
  obtain ⟨p, l, e, Rm, s, m, args, below, meth, c, D, cc, A, H0, ad0, shs0⟩ := B
  intro hO ad H locs lsA hP hD hS hA hL r hr
  exact lv_icmp_gt hO.1 hO.2.1 hd ht (fun h => kt h hO ad H locs lsA hP hD hS hA hL r (by rw [if_pos h] at hr; exact hr)) (fun h => kf h hO ad H locs lsA hP hD hS hA hL r (by rw [if_neg h] at hr; exact hr))
theorem XE_icmp_gt_T {α R : Type} {B : XB} {M : XM} {Q : R → State → Prop} {pc n : Nat} {ls : XLs} {st : List Value} {cs : Nat × Nat} {shs : XSs} {hs : List Mem} {k : α → Option R} {o : Option α} {t : Nat} {off : Int} {x y : Int32} (hd : decode M.2.1 pc = .ok (.if_icmp .gt off, 3)) (ht : (pc : Int) + off = (t : Int)) (hc : (y < x)) (kk : XE B M Q t ls (st) cs shs hs k o) : XE B M Q pc ls (.int y :: .int x :: st) cs shs hs k o := by
  obtain ⟨p, l, e, Rm, s, m, args, below, meth, c, D, cc, A, H0, ad0, shs0⟩ := B
  intro hO ad H locs lsA hP hD hS hA hL r hr
  exact lv_icmp_gt hO.1 hO.2.1 hd ht (fun _ => kk hO ad H locs lsA hP hD hS hA hL r hr) (fun h => absurd hc h)
theorem XE_icmp_gt_F {α R : Type} {B : XB} {M : XM} {Q : R → State → Prop} {pc n : Nat} {ls : XLs} {st : List Value} {cs : Nat × Nat} {shs : XSs} {hs : List Mem} {k : α → Option R} {o : Option α} {t : Nat} {off : Int} {x y : Int32} (hd : decode M.2.1 pc = .ok (.if_icmp .gt off, 3)) (hn : pc + 3 = n) (ht : (pc : Int) + off = (t : Int)) (hc : ¬ (y < x)) (kk : XE B M Q n ls (st) cs shs hs k o) : XE B M Q pc ls (.int y :: .int x :: st) cs shs hs k o := by
  subst hn
  obtain ⟨p, l, e, Rm, s, m, args, below, meth, c, D, cc, A, H0, ad0, shs0⟩ := B
  intro hO ad H locs lsA hP hD hS hA hL r hr
  exact lv_icmp_gt hO.1 hO.2.1 hd ht (fun h => absurd h hc) (fun _ => kk hO ad H locs lsA hP hD hS hA hL r hr)
theorem XE_if_le {α R : Type} {B : XB} {M : XM} {Q : R → State → Prop} {pc n : Nat} {ls : XLs} {st : List Value} {cs : Nat × Nat} {shs : XSs} {hs : List Mem} {k : α → Option R} {o : Option α} {t : Nat} {off : Int} {x : Int32} {o1 o2 : Option α} [inst : Decidable (x ≤ 0)] (hd : decode M.2.1 pc = .ok (.ifCond .le off, 3)) (hn : pc + 3 = n) (ht : (pc : Int) + off = (t : Int)) (kt : x ≤ 0 → XE B M Q t ls (st) cs shs hs k o1) (kf : ¬ x ≤ 0 → XE B M Q n ls (st) cs shs hs k o2) : XE B M Q pc ls (.int x :: st) cs shs hs k (if x ≤ 0 then o1 else o2) := by
  subst hn
  obtain ⟨p, l, e, Rm, s, m, args, below, meth, c, D, cc, A, H0, ad0, shs0⟩ := B
  intro hO ad H locs lsA hP hD hS hA hL r hr
  exact lv_if_le hO.1 hO.2.1 hd ht (fun h => kt h hO ad H locs lsA hP hD hS hA hL r (by rw [if_pos h] at hr; exact hr)) (fun h => kf h hO ad H locs lsA hP hD hS hA hL r (by rw [if_neg h] at hr; exact hr))
theorem XE_if_le_T {α R : Type} {B : XB} {M : XM} {Q : R → State → Prop} {pc n : Nat} {ls : XLs} {st : List Value} {cs : Nat × Nat} {shs : XSs} {hs : List Mem} {k : α → Option R} {o : Option α} {t : Nat} {off : Int} {x : Int32} (hd : decode M.2.1 pc = .ok (.ifCond .le off, 3)) (ht : (pc : Int) + off = (t : Int)) (hc : (x ≤ 0)) (kk : XE B M Q t ls (st) cs shs hs k o) : XE B M Q pc ls (.int x :: st) cs shs hs k o := by
  obtain ⟨p, l, e, Rm, s, m, args, below, meth, c, D, cc, A, H0, ad0, shs0⟩ := B
  intro hO ad H locs lsA hP hD hS hA hL r hr
  exact lv_if_le hO.1 hO.2.1 hd ht (fun _ => kk hO ad H locs lsA hP hD hS hA hL r hr) (fun h => absurd hc h)
theorem XE_if_le_F {α R : Type} {B : XB} {M : XM} {Q : R → State → Prop} {pc n : Nat} {ls : XLs} {st : List Value} {cs : Nat × Nat} {shs : XSs} {hs : List Mem} {k : α → Option R} {o : Option α} {t : Nat} {off : Int} {x : Int32} (hd : decode M.2.1 pc = .ok (.ifCond .le off, 3)) (hn : pc + 3 = n) (ht : (pc : Int) + off = (t : Int)) (hc : ¬ (x ≤ 0)) (kk : XE B M Q n ls (st) cs shs hs k o) : XE B M Q pc ls (.int x :: st) cs shs hs k o := by
  subst hn
  obtain ⟨p, l, e, Rm, s, m, args, below, meth, c, D, cc, A, H0, ad0, shs0⟩ := B
  intro hO ad H locs lsA hP hD hS hA hL r hr
  exact lv_if_le hO.1 hO.2.1 hd ht (fun h => absurd h hc) (fun _ => kk hO ad H locs lsA hP hD hS hA hL r hr)
theorem XE_icmp_le {α R : Type} {B : XB} {M : XM} {Q : R → State → Prop} {pc n : Nat} {ls : XLs} {st : List Value} {cs : Nat × Nat} {shs : XSs} {hs : List Mem} {k : α → Option R} {o : Option α} {t : Nat} {off : Int} {x y : Int32} {o1 o2 : Option α} [inst : Decidable (x ≤ y)] (hd : decode M.2.1 pc = .ok (.if_icmp .le off, 3)) (hn : pc + 3 = n) (ht : (pc : Int) + off = (t : Int)) (kt : x ≤ y → XE B M Q t ls (st) cs shs hs k o1) (kf : ¬ x ≤ y → XE B M Q n ls (st) cs shs hs k o2) : XE B M Q pc ls (.int y :: .int x :: st) cs shs hs k (if x ≤ y then o1 else o2) := by
  subst hn
  obtain ⟨p, l, e, Rm, s, m, args, below, meth, c, D, cc, A, H0, ad0, shs0⟩ := B
  intro hO ad H locs lsA hP hD hS hA hL r hr
  exact lv_icmp_le hO.1 hO.2.1 hd ht (fun h => kt h hO ad H locs lsA hP hD hS hA hL r (by rw [if_pos h] at hr; exact hr)) (fun h => kf h hO ad H locs lsA hP hD hS hA hL r (by rw [if_neg h] at hr; exact hr))
theorem XE_icmp_le_T {α R : Type} {B : XB} {M : XM} {Q : R → State → Prop} {pc n : Nat} {ls : XLs} {st : List Value} {cs : Nat × Nat} {shs : XSs} {hs : List Mem} {k : α → Option R} {o : Option α} {t : Nat} {off : Int} {x y : Int32} (hd : decode M.2.1 pc = .ok (.if_icmp .le off, 3)) (ht : (pc : Int) + off = (t : Int)) (hc : (x ≤ y)) (kk : XE B M Q t ls (st) cs shs hs k o) : XE B M Q pc ls (.int y :: .int x :: st) cs shs hs k o := by
  obtain ⟨p, l, e, Rm, s, m, args, below, meth, c, D, cc, A, H0, ad0, shs0⟩ := B
  intro hO ad H locs lsA hP hD hS hA hL r hr
  exact lv_icmp_le hO.1 hO.2.1 hd ht (fun _ => kk hO ad H locs lsA hP hD hS hA hL r hr) (fun h => absurd hc h)
theorem XE_icmp_le_F {α R : Type} {B : XB} {M : XM} {Q : R → State → Prop} {pc n : Nat} {ls : XLs} {st : List Value} {cs : Nat × Nat} {shs : XSs} {hs : List Mem} {k : α → Option R} {o : Option α} {t : Nat} {off : Int} {x y : Int32} (hd : decode M.2.1 pc = .ok (.if_icmp .le off, 3)) (hn : pc + 3 = n) (ht : (pc : Int) + off = (t : Int)) (hc : ¬ (x ≤ y)) (kk : XE B M Q n ls (st) cs shs hs k o) : XE B M Q pc ls (.int y :: .int x :: st) cs shs hs k o := by
  subst hn
  obtain ⟨p, l, e, Rm, s, m, args, below, meth, c, D, cc, A, H0, ad0, shs0⟩ := B
  intro hO ad H locs lsA hP hD hS hA hL r hr
  exact lv_icmp_le hO.1 hO.2.1 hd ht (fun h => absurd h hc) (fun _ => kk hO ad H locs lsA hP hD hS hA hL r hr)
theorem XE_goto {α R : Type} {B : XB} {M : XM} {Q : R → State → Prop} {pc n : Nat} {ls : XLs} {st : List Value} {cs : Nat × Nat} {shs : XSs} {hs : List Mem} {k : α → Option R} {o : Option α} {off : Int} (hd : decode M.2.1 pc = .ok (.goto off, 3)) (ht : (pc : Int) + off = (n : Int)) (kk : XE B M Q n ls (st) cs shs hs k o) : XE B M Q pc ls (st) cs shs hs k o := by
  obtain ⟨p, l, e, Rm, s, m, args, below, meth, c, D, cc, A, H0, ad0, shs0⟩ := B
  intro hO ad H locs lsA hP hD hS hA hL r hr
  exact lv_goto hO.1 hO.2.1 hd ht (kk hO ad H locs lsA hP hD hS hA hL r hr)
end
section
/-! THE FRAME, second half: fields, arrays, calls, returns -/
theorem goodIn_tbl {ws : List Cond} (h : ∀ w ∈ ws, w ∈ xT) : GoodIn xT ws := fun w hw => ⟨h w hw, good_of_word (List.mem_filter.mp (h w hw)).2⟩
/-- entry idx of class own's pool is field j of class ci, of type ty, final or not, own's or not -/
def XF (own : String) (idx ci j : Nat) (ty : FieldType) (fin dec : Bool) : Prop := ∃ (C : String) (T : u_T) (N : Nat) (ty0 : Nat → FieldType), vwCl[ci]? = some (C, T, N) ∧ j < N ∧ Cond.fieldLink own idx (T j).1 (T j).2.1 (T j).2.2.1 ∈ xT ∧ (∀ w ∈ u_ws C T N, w ∈ xT) ∧ (∀ k, k < N → parseFieldDescriptor (T k).2.2.1 = some (ty0 k)) ∧ ty0 j = ty ∧ (∀ a, a < N → ∀ b, b < N → a ≠ b → (T a).2.1 ≠ (T b).2.1) ∧ (T j).2.2.2 = fin ∧ (dec = true → (T j).1 = own)
theorem x_fs_upd {ad : Nat → Nat} {g : Nat} {κs : List Nat} {j κ : Nat} (hκ : κs[j]? = some κ) (m m' : Nat → Int32) (h : ∀ q, q ≠ j → m' q = m q) : x_fs ad g κs m' 0 = (x_fs ad g κs m 0).set j (x_fv ad g κ (m' j)) := by
  have hl : j < (x_fs ad g κs m 0).length := by rw [x_fs_len]; exact (List.getElem?_eq_some_iff.mp hκ).1
  apply List.ext_getElem?
  intro n
  rw [x_fs_at, Nat.zero_add]
  by_cases e : n = j
  · subst e
    rw [List.getElem?_set_self hl, hκ]; rfl
  · rw [List.getElem?_set_ne (fun z => e z.symm), x_fs_at, Nat.zero_add, h n e]
theorem xs_row (m : Mem) (p j : Nat) (v : Int32) : xs m p j v p = fun q => if q = j then v else m p q := by
  funext q; simp [xs]
theorem xs_at (m : Mem) (p j : Nat) (v : Int32) : xs m p j v p j = v := by simp [xs]
theorem xs_ne (m : Mem) (p j : Nat) (v : Int32) (q : Nat) (h : q ≠ j) : xs m p j v p q = m p q := by simp [xs, h]
theorem xs_off (m : Mem) (p j : Nat) (v : Int32) (q : Nat) (h : q ≠ p) : xs m p j v q = m q := by
  funext i; simp [xs, h]
theorem XE_none {α R : Type} {B : XB} {M : XM} {Q : R → State → Prop} {pc : Nat} {ls : XLs} {st : List Value} {cs : Nat × Nat} {shs : XSs} {hs : List Mem} {k : α → Option R} : XE B M Q pc ls (st) cs shs hs k ((none : Option α)) := by
  obtain ⟨p, l, e, Rm, s, m, args, below, meth, c, D, cc, A, H0, ad0, shs0⟩ := B
  intro hO ad H locs lsA hP hD hS hA hL r hr
  cases hr
theorem XE_some {α R : Type} {B : XB} {M : XM} {Q : R → State → Prop} {pc : Nat} {ls : XLs} {st : List Value} {cs : Nat × Nat} {shs : XSs} {hs : List Mem} {k : α → Option R} {τ : Type} {f : τ → Option α} {t : τ} (kk : XE B M Q pc ls (st) cs shs hs k (f t)) : XE B M Q pc ls (st) cs shs hs k ((some t).bind f) := kk
theorem XE_lt {α R : Type} {B : XB} {M : XM} {Q : R → State → Prop} {pc : Nat} {ls : XLs} {st : List Value} {cs : Nat × Nat} {shs : XSs} {hs : List Mem} {k : α → Option R} {τ : Type} {f : τ → Option α} {t : τ} (kk : XE B M Q pc ls (st) cs shs hs k (f t)) : XE B M Q pc ls (st) cs shs hs k (lt t f) := kk
theorem XE_bind {α R : Type} {B : XB} {M : XM} {Q : R → State → Prop} {pc : Nat} {ls : XLs} {st : List Value} {cs : Nat × Nat} {shs : XSs} {hs : List Mem} {k : α → Option R} {τ : Type} {f : τ → Option α} {o1 : Option τ} (kk : XE B M Q pc ls st cs shs hs (fun t => (f t).bind k) o1) : XE B M Q pc ls (st) cs shs hs k (o1.bind f) := by
  obtain ⟨p, l, e, Rm, s, m, args, below, meth, c, D, cc, A, H0, ad0, shs0⟩ := B
  intro hO ad H locs lsA hP hD hS hA hL r hr
  exact kk hO ad H locs lsA hP hD hS hA hL r (by rw [← hr, Option.bind_assoc])
theorem XE_leaf {α R : Type} {B : XB} {M : XM} {Q : R → State → Prop} {pc : Nat} {ls : XLs} {st : List Value} {cs : Nat × Nat} {shs : XSs} {hs : List Mem} {k : α → Option R} {τ : Type} {f : τ → Option α} {t : τ} (kk : XE B M Q pc ls (st) cs shs hs k (f t)) : XE B M Q pc ls st cs shs hs (fun t => (f t).bind k) (some t) := kk
theorem XE_if {α R : Type} {B : XB} {M : XM} {Q : R → State → Prop} {pc : Nat} {ls : XLs} {st : List Value} {cs : Nat × Nat} {shs : XSs} {hs : List Mem} {k : α → Option R} {P : Prop} [inst : Decidable P] {o1 o2 : Option α} (h1 : P → XE B M Q pc ls (st) cs shs hs k (o1)) (h2 : ¬ P → XE B M Q pc ls (st) cs shs hs k (o2)) : XE B M Q pc ls (st) cs shs hs k (if P then o1 else o2) := by
  by_cases h : P
  · rw [if_pos h]; exact h1 h
  · rw [if_neg h]; exact h2 h
theorem XE_ck {α R : Type} {B : XB} {M : XM} {Q : R → State → Prop} {pc : Nat} {ls : XLs} {st : List Value} {cs : Nat × Nat} {shs : XSs} {hs : List Mem} {k : α → Option R} {o : Option α} {b : Bool} (kk : b = true → XE B M Q pc ls (st) cs shs hs k o) : XE B M Q pc ls (st) cs shs hs k (ck b o) := by
  unfold ck
  cases b
  · exact XE_none
  · exact kk rfl
theorem XE_getf {α R : Type} {B : XB} {M : XM} {Q : R → State → Prop} {pc n : Nat} {ls : XLs} {st : List Value} {cs : Nat × Nat} {shs : XSs} {hs : List Mem} {k : α → Option R} {o : Option α} {a j ci idx : Nat} {κs : List Nat} {ty : FieldType} {fin dec : Bool} {v : Int32} (hx : XF M.1 idx ci j ty fin dec) (hsh : x_lk shs a = some (.inr (.inr (ci, κs)))) (hκ : κs[j]? = some 0) (hv : x_hs hs a j = v) (hd : decode M.2.1 pc = .ok (.getfield idx, 3)) (hn : pc + 3 = n) (kk : XE B M Q n ls (.int v :: st) cs shs hs k o) : XE B M Q pc ls (.ref a :: st) cs shs hs k o := by
  subst hn
  obtain ⟨p, l, e, Rm, s, m, args, below, meth, c, D, cc, A, H0, ad0, shs0⟩ := B
  intro hO ad H locs lsA hP hD hS hA hL r hr
  obtain ⟨C, T, N, ty0, h1, h2, h3, h4, h5, h6, h7, h8, h9⟩ := hx
  obtain ⟨i, hi⟩ := x_lk_at hsh
  refine va_get (v := x_cv ad (.int v)) hO.1 hO.2.1 hO.2.2.2.2.1 h4 hO.2.2.2.1 hO.2.2.2.2.2.1 hP i (x_w_at hi) h1 j h2 (hO.2.2.2.2.1 _ h3) (fun _ z => z) ?_ hd (kk hO ad H locs lsA hP hD hS hA hL r hr)
  show (x_fs ad (a / 64) κs (x_hs hs a) 0)[j]? = _
  rw [x_fs_at, hκ, Nat.zero_add, hv]; rfl
theorem XE_getr {α R : Type} {B : XB} {M : XM} {Q : R → State → Prop} {pc n : Nat} {ls : XLs} {st : List Value} {cs : Nat × Nat} {shs : XSs} {hs : List Mem} {k : α → Option R} {o : Option α} {a j ci idx : Nat} {κs : List Nat} {ty : FieldType} {fin dec : Bool} {b : Nat} (hx : XF M.1 idx ci j ty fin dec) (hsh : x_lk shs a = some (.inr (.inr (ci, κs)))) (hκ : κs[j]? = some (b + 3)) (hd : decode M.2.1 pc = .ok (.getfield idx, 3)) (hn : pc + 3 = n) (kk : XE B M Q n ls (.ref b :: st) cs shs hs k o) : XE B M Q pc ls (.ref a :: st) cs shs hs k o := by
  subst hn
  obtain ⟨p, l, e, Rm, s, m, args, below, meth, c, D, cc, A, H0, ad0, shs0⟩ := B
  intro hO ad H locs lsA hP hD hS hA hL r hr
  obtain ⟨C, T, N, ty0, h1, h2, h3, h4, h5, h6, h7, h8, h9⟩ := hx
  obtain ⟨i, hi⟩ := x_lk_at hsh
  refine va_get (v := x_cv ad (.ref b)) hO.1 hO.2.1 hO.2.2.2.2.1 h4 hO.2.2.2.1 hO.2.2.2.2.2.1 hP i (x_w_at hi) h1 j h2 (hO.2.2.2.2.1 _ h3) (fun _ z => z) ?_ hd (kk hO ad H locs lsA hP hD hS hA hL r hr)
  show (x_fs ad (a / 64) κs (x_hs hs a) 0)[j]? = _
  rw [x_fs_at, hκ]; rfl
theorem XE_getd {α R : Type} {B : XB} {M : XM} {Q : R → State → Prop} {pc n : Nat} {ls : XLs} {st : List Value} {cs : Nat × Nat} {shs : XSs} {hs : List Mem} {k : α → Option R} {a j ci idx b : Nat} {κs : List Nat} {ty : FieldType} {fin dec : Bool} {v u : Int32} {o1 o2 : Option α} (hx : XF M.1 idx ci j ty fin dec) (hsh : x_lk shs a = some (.inr (.inr (ci, κs)))) (hκ : κs[j]? = some 2) (hv : x_hs hs a j = v) (hu : u ≠ 0) (hb : 64 * (a / 64) + u.toNatClampNeg % 64 = b) (hd : decode M.2.1 pc = .ok (.getfield idx, 3)) (hn : pc + 3 = n) (kk : XE B M Q n ls (.ref b :: st) cs shs hs k (o1)) (k2 : XE B M Q pc ls (.ref a :: st) cs shs hs k (o2)) : XE B M Q pc ls (.ref a :: st) cs shs hs k (if v = u then o1 else o2) := by
  refine XE_if (fun h => ?_) (fun _ => k2)
  subst hn
  obtain ⟨p, l, e, Rm, s, m, args, below, meth, c, D, cc, A, H0, ad0, shs0⟩ := B
  intro hO ad H locs lsA hP hD hS hA hL r hr
  obtain ⟨C, T, N, ty0, h1, h2, h3, h4, h5, h6, h7, h8, h9⟩ := hx
  obtain ⟨i, hi⟩ := x_lk_at hsh
  refine va_get (v := x_cv ad (.ref b)) hO.1 hO.2.1 hO.2.2.2.2.1 h4 hO.2.2.2.1 hO.2.2.2.2.2.1 hP i (x_w_at hi) h1 j h2 (hO.2.2.2.2.1 _ h3) (fun _ z => z) ?_ hd (kk hO ad H locs lsA hP hD hS hA hL r hr)
  show (x_fs ad (a / 64) κs (x_hs hs a) 0)[j]? = _
  rw [x_fs_at, hκ, Nat.zero_add, hv, h]
  show some (if u = 0 then Value.null else .ref (ad (64 * (a / 64) + u.toNatClampNeg % 64))) = _
  rw [if_neg hu, hb]; rfl
theorem XE_putf {α R : Type} {B : XB} {M : XM} {Q : R → State → Prop} {pc n : Nat} {ls : XLs} {st : List Value} {cs : Nat × Nat} {shs : XSs} {hs : List Mem} {k : α → Option R} {a j ci idx p : Nat} {κs : List Nat} {ty : FieldType} {dec : Bool} {v : Int32} {m : Mem} {hs2 : Mem → List Mem} {f : Mem → Option α} (hx : XF M.1 idx ci j .int false dec) (hsh : x_lk shs a = some (.inr (.inr (ci, κs)))) (hκ : κs[j]? = some 0) (hm : hs.getD (a / 64) (fun _ _ => 0) = m) (hp : a % 64 = p) (hg : a / 64 < hs.length) (hh : ∀ m', hs.set (a / 64) m' = hs2 m') (hd : decode M.2.1 pc = .ok (.putfield idx, 3)) (hn : pc + 3 = n) (kk : ∀ m', XE B M Q n ls (st) cs shs (hs2 m') k (f m')) : XE B M Q pc ls (.int v :: .ref a :: st) cs shs hs k (lt (xs m p j v) f) := by
  subst hn
  subst hp
  subst hm
  obtain ⟨p, l, e, Rm, s, m, args, below, meth, c, D, cc, A, H0, ad0, shs0⟩ := B
  intro hO ad H locs lsA hP hD hS hA hL r hr
  obtain ⟨C, T, N, ty0, h1, h2, h3, h4, h5, h6, h7, h8, h9⟩ := hx
  obtain ⟨i, hi⟩ := x_lk_at hsh
  have hcell : x_cell cc ad a (.inr (.inr (ci, κs))) (xs (hs.getD (a / 64) (fun _ _ => 0)) (a % 64) j v (a % 64)) = .inr (ci, (x_fs ad (a / 64) κs (x_hs hs a) 0).set j (x_cv ad (.int v))) := by
    show Sum.inr (ci, x_fs ad (a / 64) κs _ 0) = _
    rw [x_fs_upd hκ (x_hs hs a) (xs (hs.getD (a / 64) (fun _ _ => 0)) (a % 64) j v (a % 64)) (fun q hq => xs_ne _ _ _ _ q hq), xs_at]
    rfl
  refine va_put (ty := .int) (v := x_cv ad (.int v)) hO.1 hO.2.1 hO.2.2.2.2.1 h4 ty0 h5 h7 hO.2.2.2.1 hO.2.2.2.2.2.1 hP hD hS i (x_w_at hi) h1 j h2 (hO.2.2.2.2.1 _ h3) (fun _ z => z) h8 (by rw [h5 j h2, h6]) rfl rfl (by rw [x_fs_len]; exact (List.getElem?_eq_some_iff.mp hκ).1) hd (fun H1 locs1 g1 g2 g3 => ?_)
  have g4 := x_P_set hi hD hg (fun q hq => xs_off _ _ _ _ q hq) hcell g1
  rw [hh] at g4
  exact kk _ hO ad H1 locs1 lsA g4 (x_D_any hD) g3 hA hL r hr
theorem XE_putz {α R : Type} {B : XB} {M : XM} {Q : R → State → Prop} {pc n : Nat} {ls : XLs} {st : List Value} {cs : Nat × Nat} {shs : XSs} {hs : List Mem} {k : α → Option R} {a j ci idx p : Nat} {κs : List Nat} {ty : FieldType} {dec : Bool} {v : Int32} {m : Mem} {hs2 : Mem → List Mem} {f : Mem → Option α} (hx : XF M.1 idx ci j .boolean false dec) (hsh : x_lk shs a = some (.inr (.inr (ci, κs)))) (hκ : κs[j]? = some 0) (hm : hs.getD (a / 64) (fun _ _ => 0) = m) (hp : a % 64 = p) (hg : a / 64 < hs.length) (hh : ∀ m', hs.set (a / 64) m' = hs2 m') (hz : isb v = true) (hd : decode M.2.1 pc = .ok (.putfield idx, 3)) (hn : pc + 3 = n) (kk : ∀ m', XE B M Q n ls (st) cs shs (hs2 m') k (f m')) : XE B M Q pc ls (.int v :: .ref a :: st) cs shs hs k (lt (xs m p j v) f) := by
  subst hn
  subst hp
  subst hm
  obtain ⟨p, l, e, Rm, s, m, args, below, meth, c, D, cc, A, H0, ad0, shs0⟩ := B
  intro hO ad H locs lsA hP hD hS hA hL r hr
  obtain ⟨C, T, N, ty0, h1, h2, h3, h4, h5, h6, h7, h8, h9⟩ := hx
  obtain ⟨i, hi⟩ := x_lk_at hsh
  have hcell : x_cell cc ad a (.inr (.inr (ci, κs))) (xs (hs.getD (a / 64) (fun _ _ => 0)) (a % 64) j v (a % 64)) = .inr (ci, (x_fs ad (a / 64) κs (x_hs hs a) 0).set j (x_cv ad (.int v))) := by
    show Sum.inr (ci, x_fs ad (a / 64) κs _ 0) = _
    rw [x_fs_upd hκ (x_hs hs a) (xs (hs.getD (a / 64) (fun _ _ => 0)) (a % 64) j v (a % 64)) (fun q hq => xs_ne _ _ _ _ q hq), xs_at]
    rfl
  refine va_put (ty := .boolean) (v := x_cv ad (.int v)) hO.1 hO.2.1 hO.2.2.2.2.1 h4 ty0 h5 h7 hO.2.2.2.1 hO.2.2.2.2.2.1 hP hD hS i (x_w_at hi) h1 j h2 (hO.2.2.2.2.1 _ h3) (fun _ z => z) h8 (by rw [h5 j h2, h6]) (narrow_isb hz) (fits_isb hz) (by rw [x_fs_len]; exact (List.getElem?_eq_some_iff.mp hκ).1) hd (fun H1 locs1 g1 g2 g3 => ?_)
  have g4 := x_P_set hi hD hg (fun q hq => xs_off _ _ _ _ q hq) hcell g1
  rw [hh] at g4
  exact kk _ hO ad H1 locs1 lsA g4 (x_D_any hD) g3 hA hL r hr
theorem XE_putd {α R : Type} {B : XB} {M : XM} {Q : R → State → Prop} {pc n : Nat} {ls : XLs} {st : List Value} {cs : Nat × Nat} {shs : XSs} {hs : List Mem} {k : α → Option R} {a j ci idx p : Nat} {κs : List Nat} {ty : FieldType} {dec : Bool} {v : Int32} {m : Mem} {hs2 : Mem → List Mem} {f : Mem → Option α} {b : Nat} (hx : XF M.1 idx ci j ty false dec) (hsh : x_lk shs a = some (.inr (.inr (ci, κs)))) (hκ : κs[j]? = some 2) (hm : hs.getD (a / 64) (fun _ _ => 0) = m) (hp : a % 64 = p) (hg : a / 64 < hs.length) (hh : ∀ m', hs.set (a / 64) m' = hs2 m') (hv0 : v ≠ 0) (hvb : 64 * (a / 64) + v.toNatClampNeg % 64 = b) (ht : (∃ t, ty = .array t) ∨ ∃ t, ty = .object t) (hd : decode M.2.1 pc = .ok (.putfield idx, 3)) (hn : pc + 3 = n) (kk : ∀ m', XE B M Q n ls (st) cs shs (hs2 m') k (f m')) : XE B M Q pc ls (.ref b :: .ref a :: st) cs shs hs k (lt (xs m p j v) f) := by
  subst hn
  subst hp
  subst hm
  obtain ⟨p, l, e, Rm, s, m, args, below, meth, c, D, cc, A, H0, ad0, shs0⟩ := B
  intro hO ad H locs lsA hP hD hS hA hL r hr
  obtain ⟨C, T, N, ty0, h1, h2, h3, h4, h5, h6, h7, h8, h9⟩ := hx
  obtain ⟨i, hi⟩ := x_lk_at hsh
  have hcell : x_cell cc ad a (.inr (.inr (ci, κs))) (xs (hs.getD (a / 64) (fun _ _ => 0)) (a % 64) j v (a % 64)) = .inr (ci, (x_fs ad (a / 64) κs (x_hs hs a) 0).set j (x_cv ad (.ref b))) := by
    show Sum.inr (ci, x_fs ad (a / 64) κs _ 0) = _
    rw [x_fs_upd hκ (x_hs hs a) (xs (hs.getD (a / 64) (fun _ _ => 0)) (a % 64) j v (a % 64)) (fun q hq => xs_ne _ _ _ _ q hq), xs_at]
    show Sum.inr (ci, (x_fs ad (a / 64) κs (x_hs hs a) 0).set j (if v = 0 then Value.null else .ref (ad (64 * (a / 64) + v.toNatClampNeg % 64)))) = _
    rw [if_neg hv0, hvb]; rfl
  refine va_put (ty := ty) (v := x_cv ad (.ref b)) hO.1 hO.2.1 hO.2.2.2.2.1 h4 ty0 h5 h7 hO.2.2.2.1 hO.2.2.2.2.2.1 hP hD hS i (x_w_at hi) h1 j h2 (hO.2.2.2.2.1 _ h3) (fun _ z => z) h8 (by rw [h5 j h2, h6]) (by cases ht with | inl h => obtain ⟨t, rfl⟩ := h; rfl | inr h => obtain ⟨t, rfl⟩ := h; rfl) (by cases ht with | inl h => obtain ⟨t, rfl⟩ := h; rfl | inr h => obtain ⟨t, rfl⟩ := h; rfl) (by rw [x_fs_len]; exact (List.getElem?_eq_some_iff.mp hκ).1) hd (fun H1 locs1 g1 g2 g3 => ?_)
  have g4 := x_P_set hi hD hg (fun q hq => xs_off _ _ _ _ q hq) hcell g1
  rw [hh] at g4
  exact kk _ hO ad H1 locs1 lsA g4 (x_D_any hD) g3 hA hL r hr
theorem XE_iald {α R : Type} {B : XB} {M : XM} {Q : R → State → Prop} {pc n : Nat} {ls : XLs} {st : List Value} {cs : Nat × Nat} {shs : XSs} {hs : List Mem} {k : α → Option R} {o : Option α} {a len : Nat} {i : Int32} {row : Nat → Int32} (hsh : x_lk shs a = some (.inl len)) (hv : x_hs hs a = row) (hd : decode M.2.1 pc = .ok (.iaload, 1)) (hn : pc + 1 = n) (kk : XE B M Q n ls (.int (row (ix i)) :: st) cs shs hs k o) : XE B M Q pc ls (.int i :: .ref a :: st) cs shs hs k (ck (inb i len) o) := by
  refine XE_ck (fun hin => ?_)
  subst hn
  subst hv
  obtain ⟨p, l, e, Rm, s, m, args, below, meth, c, D, cc, A, H0, ad0, shs0⟩ := B
  intro hO ad H locs lsA hP hD hS hA hL r hr
  obtain ⟨i0, hi⟩ := x_lk_at hsh
  exact va_iald hO.1 hO.2.1 hO.2.2.2.2.2.1 hP i0 0 (x_w_at hi) rfl (inb_in hin) hd (kk hO ad H locs lsA hP hD hS hA hL r hr)
theorem XE_ialdc {α R : Type} {B : XB} {M : XM} {Q : R → State → Prop} {pc n : Nat} {ls : XLs} {st : List Value} {cs : Nat × Nat} {shs : XSs} {hs : List Mem} {k : α → Option R} {o : Option α} {a len j : Nat} {i : Int32} {row : Nat → Int32} (hsh : x_lk shs a = some (.inl len)) (hv : x_hs hs a = row) (hin : inb i len = true) (hj : ix i = j) (hd : decode M.2.1 pc = .ok (.iaload, 1)) (hn : pc + 1 = n) (kk : XE B M Q n ls (.int (row j) :: st) cs shs hs k o) : XE B M Q pc ls (.int i :: .ref a :: st) cs shs hs k o := by
  subst hn
  subst hv
  subst hj
  obtain ⟨p, l, e, Rm, s, m, args, below, meth, c, D, cc, A, H0, ad0, shs0⟩ := B
  intro hO ad H locs lsA hP hD hS hA hL r hr
  obtain ⟨i0, hi⟩ := x_lk_at hsh
  exact va_iald hO.1 hO.2.1 hO.2.2.2.2.2.1 hP i0 0 (x_w_at hi) rfl (inb_in hin) hd (kk hO ad H locs lsA hP hD hS hA hL r hr)
theorem XE_iastj {α R : Type} {B : XB} {M : XM} {Q : R → State → Prop} {pc n : Nat} {ls : XLs} {st : List Value} {cs : Nat × Nat} {shs : XSs} {hs : List Mem} {k : α → Option R} {a len p : Nat} {i v : Int32} {m : Mem} {hs2 : Mem → List Mem} {f : Mem → Option α} {j : Nat} (hsh : x_lk shs a = some (.inl len)) (hm : hs.getD (a / 64) (fun _ _ => 0) = m) (hp : a % 64 = p) (hg : a / 64 < hs.length) (hh : ∀ m', hs.set (a / 64) m' = hs2 m') (hin : inb i len = true) (hj : ix i = j) (hd : decode M.2.1 pc = .ok (.iastore, 1)) (hn : pc + 1 = n) (kk : ∀ m', XE B M Q n ls (st) cs shs (hs2 m') k (f m')) : XE B M Q pc ls (.int v :: .int i :: .ref a :: st) cs shs hs k (lt (xs m p j v) f) := by
  subst hn
  subst hp
  subst hm
  subst hj
  obtain ⟨p, l, e, Rm, s, m, args, below, meth, c, D, cc, A, H0, ad0, shs0⟩ := B
  intro hO ad H locs lsA hP hD hS hA hL r hr
  obtain ⟨i0, hi⟩ := x_lk_at hsh
  refine va_iast (D := D) (cl := vwCl) hO.1 hO.2.1 hO.2.2.2.2.2.1 hP hD hS i0 0 (x_w_at hi) rfl (inb_in hin) hd (fun H1 locs1 g1 g2 g3 => ?_)
  have g4 := x_P_set (m' := xs (hs.getD (a / 64) (fun _ _ => 0)) (a % 64) (ix i) v) hi hD hg (fun q hq => xs_off _ _ _ _ q hq) (by rw [xs_row]; rfl) g1
  rw [hh] at g4
  exact kk _ hO ad H1 locs1 lsA g4 (x_D_any hD) g3 hA hL r hr
theorem XE_iast {α R : Type} {B : XB} {M : XM} {Q : R → State → Prop} {pc n : Nat} {ls : XLs} {st : List Value} {cs : Nat × Nat} {shs : XSs} {hs : List Mem} {k : α → Option R} {a len p : Nat} {i v : Int32} {m : Mem} {hs2 : Mem → List Mem} {f : Mem → Option α} (hsh : x_lk shs a = some (.inl len)) (hm : hs.getD (a / 64) (fun _ _ => 0) = m) (hp : a % 64 = p) (hg : a / 64 < hs.length) (hh : ∀ m', hs.set (a / 64) m' = hs2 m') (hd : decode M.2.1 pc = .ok (.iastore, 1)) (hn : pc + 1 = n) (kk : ∀ m', XE B M Q n ls (st) cs shs (hs2 m') k (f m')) : XE B M Q pc ls (.int v :: .int i :: .ref a :: st) cs shs hs k (ck (inb i len) (lt (xs m p (ix i) v) f)) := XE_ck (fun hin => XE_iastj hsh hm hp hg hh hin rfl hd hn kk)
theorem XE_alen {α R : Type} {B : XB} {M : XM} {Q : R → State → Prop} {pc n : Nat} {ls : XLs} {st : List Value} {cs : Nat × Nat} {shs : XSs} {hs : List Mem} {k : α → Option R} {o : Option α} {a len : Nat} {v : Int32} (hsh : x_lk shs a = some (.inl len)) (hv : Int32.ofNat len = v) (hd : decode M.2.1 pc = .ok (.arraylength, 1)) (hn : pc + 1 = n) (kk : XE B M Q n ls (.int v :: st) cs shs hs k o) : XE B M Q pc ls (.ref a :: st) cs shs hs k o := by
  subst hn
  obtain ⟨p, l, e, Rm, s, m, args, below, meth, c, D, cc, A, H0, ad0, shs0⟩ := B
  intro hO ad H locs lsA hP hD hS hA hL r hr
  obtain ⟨i0, hi⟩ := x_lk_at hsh
  exact va_alen (D := D) (cl := vwCl) hO.1 hO.2.1 hO.2.2.2.2.2.1 hP i0 0 (x_w_at hi) (ty := .int) rfl hv hd (kk hO ad H locs lsA hP hD hS hA hL r hr)
theorem XE_aald {α R : Type} {B : XB} {M : XM} {Q : R → State → Prop} {pc n : Nat} {ls : XLs} {st : List Value} {cs : Nat × Nat} {shs : XSs} {hs : List Mem} {k : α → Option R} {a b : Nat} {i j : Int32} {ks : List Nat} {o1 o2 : Option α} (hsh : x_lk shs a = some (.inr (.inl ks))) (hin : inb j ks.length = true) (hb : ks.getD (ix j) 0 = b + 1) (hd : decode M.2.1 pc = .ok (.aaload, 1)) (hn : pc + 1 = n) (kk : XE B M Q n ls (.ref b :: st) cs shs hs k (o1)) (k2 : XE B M Q pc ls (.int i :: .ref a :: st) cs shs hs k (o2)) : XE B M Q pc ls (.int i :: .ref a :: st) cs shs hs k (if i = j then o1 else o2) := by
  refine XE_if (fun h => ?_) (fun _ => k2)
  subst hn
  subst h
  obtain ⟨p, l, e, Rm, s, m, args, below, meth, c, D, cc, A, H0, ad0, shs0⟩ := B
  intro hO ad H locs lsA hP hD hS hA hL r hr
  obtain ⟨i0, hi⟩ := x_lk_at hsh
  have hrf : va_rf (x_rf ad ks i.toNatClampNeg) = .ref (ad b) := by
    unfold x_rf
    rw [show ks.getD i.toNatClampNeg 0 = b + 1 from hb]; rfl
  refine va_aldq (C := RX2) hO.1 hO.2.1 hO.2.2.2.2.2.1 hP i0 1 (x_w_at hi) rfl (inb_in hin) hd ?_
  rw [hrf]
  exact (kk hO ad H locs lsA hP hD hS hA hL r hr)
def imax (x y : Int32) : Int32 := if x < y then y else x
def imin (x y : Int32) : Int32 := if y < x then y else x
def iabs (x : Int32) : Int32 := if 0 ≤ x then x else 0 - x
def lmax (x y : Int64) : Int64 := if y < x then x else y
def XMa (own : String) (idx : Nat) (y : MethodName) (bytes : ByteArray) (maxL : Nat) (ret : Option FieldType) : Prop := Cond.methodLink own idx y ∈ xT ∧ Cond.static y ∈ xT ∧ Cond.initialized y.cls ∈ xT ∧ Cond.code y bytes maxL ret ∈ xT
theorem XE_mmax {α R : Type} {B : XB} {M : XM} {Q : R → State → Prop} {pc n : Nat} {ls : XLs} {st : List Value} {cs : Nat × Nat} {shs : XSs} {hs : List Mem} {k : α → Option R} {o : Option α} {idx : Nat} {x y : Int32} (hx : XMa M.1 idx Lib.Math.max.name Lib.Math.max.code 2 (some .int)) (hcs : cs = (0, 0)) (h1 : 1 ≤ x_dp M) (hc : (st.map fun v => v.category).sum ≤ 20) (hd : decode M.2.1 pc = .ok (.invokestatic idx, 3)) (hn : pc + 3 = n) (kk : XE B M Q n ls (.int (imax x y) :: st) cs shs hs k o) : XE B M Q pc ls (.int y :: .int x :: st) cs shs hs k o := by
  subst hn
  subst hcs
  obtain ⟨p, l, e, Rm, s, m, args, below, meth, c, D, cc, A, H0, ad0, shs0⟩ := B
  intro hO ad H locs lsA hP hD hS hA hL r hr
  have hc' : ((st.map (x_cv ad)).map fun v => v.category).sum ≤ 20 := by rw [List.map_map, show ((fun v : Value => v.category) ∘ x_cv ad) = (fun v => v.category) from funext fun v => x_cv_cat ad v]; exact hc
  have hfr : x_dp M ≤ Rm.frames := hO.2.2.2.2.2.2.2.2.2.2.1
  have hlo : 40 * x_dp M ≤ Rm.locals := hO.2.2.2.2.2.2.2.2.2.2.2.1
  exact va_mmax hO.1 hO.2.1 (hO.2.2.1.trans hL.size.symm) hO.2.2.2.1 (hO.2.2.2.2.1 _ hx.1) (hO.2.2.2.2.1 _ hx.2.1) (hO.2.2.2.2.1 _ hx.2.2.1) (hO.2.2.2.2.1 _ hx.2.2.2) (by omega) (by omega) (Nat.zero_le _) (Nat.zero_le _) hd (kk hO ad H locs lsA hP hD hS hA hL r hr)
theorem XE_mmin {α R : Type} {B : XB} {M : XM} {Q : R → State → Prop} {pc n : Nat} {ls : XLs} {st : List Value} {cs : Nat × Nat} {shs : XSs} {hs : List Mem} {k : α → Option R} {o : Option α} {idx : Nat} {x y : Int32} (hx : XMa M.1 idx Lib.Math.min.name Lib.Math.min.code 2 (some .int)) (hcs : cs = (0, 0)) (h1 : 1 ≤ x_dp M) (hc : (st.map fun v => v.category).sum ≤ 20) (hd : decode M.2.1 pc = .ok (.invokestatic idx, 3)) (hn : pc + 3 = n) (kk : XE B M Q n ls (.int (imin x y) :: st) cs shs hs k o) : XE B M Q pc ls (.int y :: .int x :: st) cs shs hs k o := by
  subst hn
  subst hcs
  obtain ⟨p, l, e, Rm, s, m, args, below, meth, c, D, cc, A, H0, ad0, shs0⟩ := B
  intro hO ad H locs lsA hP hD hS hA hL r hr
  have hc' : ((st.map (x_cv ad)).map fun v => v.category).sum ≤ 20 := by rw [List.map_map, show ((fun v : Value => v.category) ∘ x_cv ad) = (fun v => v.category) from funext fun v => x_cv_cat ad v]; exact hc
  have hfr : x_dp M ≤ Rm.frames := hO.2.2.2.2.2.2.2.2.2.2.1
  have hlo : 40 * x_dp M ≤ Rm.locals := hO.2.2.2.2.2.2.2.2.2.2.2.1
  exact va_mmin hO.1 hO.2.1 (hO.2.2.1.trans hL.size.symm) hO.2.2.2.1 (hO.2.2.2.2.1 _ hx.1) (hO.2.2.2.2.1 _ hx.2.1) (hO.2.2.2.2.1 _ hx.2.2.1) (hO.2.2.2.2.1 _ hx.2.2.2) (by omega) (by omega) (Nat.zero_le _) (Nat.zero_le _) hd (kk hO ad H locs lsA hP hD hS hA hL r hr)
theorem XE_mabs {α R : Type} {B : XB} {M : XM} {Q : R → State → Prop} {pc n : Nat} {ls : XLs} {st : List Value} {cs : Nat × Nat} {shs : XSs} {hs : List Mem} {k : α → Option R} {o : Option α} {idx : Nat} {x : Int32} (hx : XMa M.1 idx Lib.Math.abs.name Lib.Math.abs.code 1 (some .int)) (hcs : cs = (0, 0)) (h1 : 1 ≤ x_dp M) (hc : (st.map fun v => v.category).sum ≤ 20) (hd : decode M.2.1 pc = .ok (.invokestatic idx, 3)) (hn : pc + 3 = n) (kk : XE B M Q n ls (.int (iabs x) :: st) cs shs hs k o) : XE B M Q pc ls (.int x :: st) cs shs hs k o := by
  subst hn
  subst hcs
  obtain ⟨p, l, e, Rm, s, m, args, below, meth, c, D, cc, A, H0, ad0, shs0⟩ := B
  intro hO ad H locs lsA hP hD hS hA hL r hr
  have hc' : ((st.map (x_cv ad)).map fun v => v.category).sum ≤ 20 := by rw [List.map_map, show ((fun v : Value => v.category) ∘ x_cv ad) = (fun v => v.category) from funext fun v => x_cv_cat ad v]; exact hc
  have hfr : x_dp M ≤ Rm.frames := hO.2.2.2.2.2.2.2.2.2.2.1
  have hlo : 40 * x_dp M ≤ Rm.locals := hO.2.2.2.2.2.2.2.2.2.2.2.1
  exact va_mabs hO.1 hO.2.1 (hO.2.2.1.trans hL.size.symm) hO.2.2.2.1 (hO.2.2.2.2.1 _ hx.1) (hO.2.2.2.2.1 _ hx.2.1) (hO.2.2.2.2.1 _ hx.2.2.1) (hO.2.2.2.2.1 _ hx.2.2.2) (by omega) (by omega) (Nat.zero_le _) (Nat.zero_le _) hd (kk hO ad H locs lsA hP hD hS hA hL r hr)
theorem XE_lmax {α R : Type} {B : XB} {M : XM} {Q : R → State → Prop} {pc n : Nat} {ls : XLs} {st : List Value} {cs : Nat × Nat} {shs : XSs} {hs : List Mem} {k : α → Option R} {o : Option α} {idx : Nat} {x y : Int64} (hx : XMa M.1 idx Lib.MathLoose.max_long.x Lib.MathLoose.max_long.code 4 (some .long)) (hcs : cs = (0, 0)) (h1 : 1 ≤ x_dp M) (hc : (st.map fun v => v.category).sum ≤ 20) (hd : decode M.2.1 pc = .ok (.invokestatic idx, 3)) (hn : pc + 3 = n) (kk : XE B M Q n ls (.long (lmax x y) :: st) cs shs hs k o) : XE B M Q pc ls (.long y :: .long x :: st) cs shs hs k o := by
  subst hn
  subst hcs
  obtain ⟨p, l, e, Rm, s, m, args, below, meth, c, D, cc, A, H0, ad0, shs0⟩ := B
  intro hO ad H locs lsA hP hD hS hA hL r hr
  have hc' : ((st.map (x_cv ad)).map fun v => v.category).sum ≤ 20 := by rw [List.map_map, show ((fun v : Value => v.category) ∘ x_cv ad) = (fun v => v.category) from funext fun v => x_cv_cat ad v]; exact hc
  have hfr : x_dp M ≤ Rm.frames := hO.2.2.2.2.2.2.2.2.2.2.1
  have hlo : 40 * x_dp M ≤ Rm.locals := hO.2.2.2.2.2.2.2.2.2.2.2.1
  exact va_mmax_long hO.1 hO.2.1 (hO.2.2.1.trans hL.size.symm) hO.2.2.2.1 (hO.2.2.2.2.1 _ hx.1) (hO.2.2.2.2.1 _ hx.2.1) (hO.2.2.2.2.1 _ hx.2.2.1) (hO.2.2.2.2.1 _ hx.2.2.2) (by omega) (by omega) (Nat.zero_le _) (Nat.zero_le _) hd (kk hO ad H locs lsA hP hD hS hA hL r hr)
def cpok (sp dp n : Int32) (n0 n1 : Nat) : Bool := decide (0 ≤ sp) && (decide (0 ≤ dp) && (decide (0 ≤ n) && (decide (ix sp + ix n ≤ n0) && decide (ix dp + ix n ≤ n1))))
def XCp (own : String) (idx : Nat) : Prop := Cond.methodLink own idx arraycopyName ∈ xT ∧ Cond.native arraycopyName ∈ xT ∧ Cond.static arraycopyName ∈ xT ∧ Cond.initialized "java/lang/System" ∈ xT
theorem xcp_row (m : Mem) (p : Nat) (f : Nat → Int32) (sp dp n : Nat) : xcp m p f sp dp n p = va_cpy f (m p) sp dp n := by
  funext q; simp [xcp]
theorem xcp_off (m : Mem) (p : Nat) (f : Nat → Int32) (sp dp n q : Nat) (h : q ≠ p) : xcp m p f sp dp n q = m q := by
  funext i; simp [xcp, h]
theorem cpok_spec {sp dp n : Int32} {n0 n1 : Nat} (h : cpok sp dp n n0 n1 = true) : ¬ sp < 0 ∧ ¬ dp < 0 ∧ ¬ n < 0 ∧ sp.toNatClampNeg + n.toNatClampNeg ≤ n0 ∧ dp.toNatClampNeg + n.toNatClampNeg ≤ n1 := by
  unfold cpok at h
  simp only [Bool.and_eq_true, decide_eq_true_eq] at h
  exact ⟨Int32.not_lt.mpr h.1, Int32.not_lt.mpr h.2.1, Int32.not_lt.mpr h.2.2.1, h.2.2.2.1, h.2.2.2.2⟩
theorem XE_cpyk {α R : Type} {B : XB} {M : XM} {Q : R → State → Prop} {pc n : Nat} {ls : XLs} {st : List Value} {cs : Nat × Nat} {shs : XSs} {hs : List Mem} {k : α → Option R} {a a0 n0 n1 idx p j0 j1 jn : Nat} {sp dp z : Int32} {m : Mem} {row : Nat → Int32} {hs2 : Mem → List Mem} {f : Mem → Option α} (hx : XCp M.1 idx) (hs0 : x_lk shs a0 = some (.inl n0)) (hsh : x_lk shs a = some (.inl n1)) (hrow : x_hs hs a0 = row) (hm : hs.getD (a / 64) (fun _ _ => 0) = m) (hp : a % 64 = p) (hg : a / 64 < hs.length) (hh : ∀ m', hs.set (a / 64) m' = hs2 m') (hok : cpok sp dp z n0 n1 = true) (hj0 : ix sp = j0) (hj1 : ix dp = j1) (hjn : ix z = jn) (h1 : 1 ≤ x_dp M) (hst : st = []) (hd : decode M.2.1 pc = .ok (.invokestatic idx, 3)) (hn : pc + 3 = n) (kk : ∀ m', XE B M Q n ls (st) cs shs (hs2 m') k (f m')) : XE B M Q pc ls (.int z :: .int dp :: .ref a :: .int sp :: .ref a0 :: st) cs shs hs k (lt (xcp m p row j0 j1 jn) f) := by
  subst hn
  subst hp
  subst hm
  subst hrow
  subst hst
  subst hj0
  subst hj1
  subst hjn
  obtain ⟨p, l, e, Rm, s, m, args, below, meth, c, D, cc, A, H0, ad0, shs0⟩ := B
  intro hO ad H locs lsA hP hD hS hA hL r hr
  obtain ⟨i0, hi⟩ := x_lk_at hsh
  obtain ⟨i1, hi1⟩ := x_lk_at hs0
  obtain ⟨q1, q2, q3, q4, q5⟩ := cpok_spec hok
  have hfr : x_dp M ≤ Rm.frames := hO.2.2.2.2.2.2.2.2.2.2.1
  have hlo : 40 * x_dp M ≤ Rm.locals := hO.2.2.2.2.2.2.2.2.2.2.2.1
  refine va_copyi (D := D) (cl := vwCl) (ty := .int) hO.1 hO.2.1 (hO.2.2.1.trans hL.size.symm) hO.2.2.2.1 (hO.2.2.2.2.1 _ hx.1) (hO.2.2.2.2.1 _ hx.2.1) (hO.2.2.2.2.1 _ hx.2.2.1) (hO.2.2.2.2.1 _ hx.2.2.2) hO.2.2.2.2.2.1 hP hD hS i1 i0 0 0 (x_w_at hi1) (x_w_at hi) rfl rfl rfl q1 q2 q3 q4 q5 (fun _ _ => rfl) (by omega) ?_ hd (fun H1 locs1 g1 g2 g3 => ?_)
  · have : nativeFrameWords "java/lang/System" "arraycopy" 5 + 11 ≤ 40 := by decide
    simp only [List.map_nil, List.sum_nil]
    omega
  · have g4 := x_P_set (m' := xcp (hs.getD (a / 64) (fun _ _ => 0)) (a % 64) (x_hs hs a0) (ix sp) (ix dp) (ix z)) hi hD hg (fun q hq => xcp_off _ _ _ _ _ _ q hq) (by rw [xcp_row]; rfl) g1
    rw [hh] at g4
    exact kk _ hO ad H1 locs1 lsA g4 (x_D_any hD) g3 hA hL r hr
theorem XE_cpy {α R : Type} {B : XB} {M : XM} {Q : R → State → Prop} {pc n : Nat} {ls : XLs} {st : List Value} {cs : Nat × Nat} {shs : XSs} {hs : List Mem} {k : α → Option R} {a a0 n0 n1 idx p : Nat} {sp dp z : Int32} {m : Mem} {row : Nat → Int32} {hs2 : Mem → List Mem} {f : Mem → Option α} (hx : XCp M.1 idx) (hs0 : x_lk shs a0 = some (.inl n0)) (hsh : x_lk shs a = some (.inl n1)) (hrow : x_hs hs a0 = row) (hm : hs.getD (a / 64) (fun _ _ => 0) = m) (hp : a % 64 = p) (hg : a / 64 < hs.length) (hh : ∀ m', hs.set (a / 64) m' = hs2 m') (h1 : 1 ≤ x_dp M) (hst : st = []) (hd : decode M.2.1 pc = .ok (.invokestatic idx, 3)) (hn : pc + 3 = n) (kk : ∀ m', XE B M Q n ls (st) cs shs (hs2 m') k (f m')) : XE B M Q pc ls (.int z :: .int dp :: .ref a :: .int sp :: .ref a0 :: st) cs shs hs k (ck (cpok sp dp z n0 n1) (lt (xcp m p row (ix sp) (ix dp) (ix z)) f)) := XE_ck (fun hok => XE_cpyk hx hs0 hsh hrow hm hp hg hh hok rfl rfl rfl h1 hst hd hn kk)
end
section
/-! CONTRACTS: XMet says of a method, from its own small world on, what it answers; a call puts the small world into the caller's by places of groups -/
def XQ (D : va_G) (cc : ClassId × ClassId) (A : Nat → Prop) (ad0 : Nat → Nat) (shs0 shsF : XSs) (r : XR) : Array Value → State → Outcome → State → Prop := fun _ st oc t => (∃ ad' : Nat → Nat, (∀ k, (x_lk shs0 k ≠ none ∨ x_lk shsF k = none) → ad' k = ad0 k) ∧ oc = .returned (r.1.map (x_cv ad')) ∧ va_P D vwCl (x_w cc ad' shsF r.2) t.heap ∧ va_K D vwCl (x_tys cc) t ∧ va_D A (x_w cc ad' shsF r.2)) ∧ va_F A st t
def XMet (l : Launch) (y : MethodName) (bytes : ByteArray) (maxL : Nat) (ret : Option FieldType) (d mc ms : Nat) (av : List Value) (shs : XSs) (hs : List Mem) (shsF : XSs) (r : XR) : Prop := ∀ (D : va_G) (cc : ClassId × ClassId) (ad : Nat → Nat) (sz : Nat), Met l y (Cond.code y bytes maxL ret :: xT) ({ frames := d, cells := mc, slots := ms, locals := 40 * d }) (va_Pc (av.map (x_cv ad)) (fun U => U.heap.size = sz ∧ va_P D vwCl (x_w cc ad shs hs) U.heap ∧ va_K D vwCl (x_tys cc) U ∧ va_D (fun _ => True) (x_w cc ad shs hs))) (XQ D cc (va_A (x_w cc ad shs hs) sz) ad shs shsF r) mc ms (va_A (x_w cc ad shs hs) sz)
def XQm (B : XB) (mc ms : Nat) (shsF : XSs) (r : XR) : State → Prop := match B with
  | (_, _, _, _, s, _, args, below, _, _, D, cc, A, _, ad0, shs0) => MQ below (XQ D cc A ad0 shs0 shsF r) args s mc ms A
def x_args : Nat → List Value → XLs
  | _, [] => []
  | i, v :: vs => (i, some v) :: x_args (if v.category = 2 then i + 2 else i + 1) vs
theorem x_args_in (ad : Nat → Nat) : ∀ (vs : List Value) (i j : Nat) (v : Value), xlk (x_args i vs) j = some v → (j, x_cv ad v) ∈ lv_args i (vs.map (x_cv ad))
  | [], _, _, _, h => by cases h
  | u :: us, i, j, v, h => by
    unfold x_args xlk at h
    by_cases e : i = j
    · rw [if_pos e] at h
      cases h
      subst e
      exact List.mem_cons_self
    · rw [if_neg e] at h
      refine List.mem_cons_of_mem _ ?_
      rw [x_cv_cat]
      exact x_args_in ad us _ j v h
theorem XMet.of {τ : Type} {l : Launch} {y : MethodName} {bytes : ByteArray} {maxL : Nat} {ret : Option FieldType} {d mc ms : Nat} {av : List Value} {shs : XSs} {hs : List Mem} {shsF : XSs} {k : τ → Option XR} {o : Option τ} (hy : plainName y.cls = true) (hlen : ∀ ad, (lg_sl (av.map (x_cv ad))).length ≤ maxL)
    (h : ∀ B : XB, XE B (y.cls, bytes, maxL, ret, y.name, d, mc, ms) (XQm B mc ms shsF) 0 (x_args 0 av) [] (0, 0) shs hs k o) {r : XR} (hr : o.bind k = some r) : XMet l y bytes maxL ret d mc ms av shs hs shsF r := by
  intro D cc ad sz
  refine Met.ofW (cc := bytes) (maxL := maxL) (ret := ret) hy rfl ?_
  intro p e s m args below meth c s₁ B hml hv
  obtain ⟨rfl, hsz, hP, hK, hD0⟩ := hv
  subst hsz
  have hts := atoms_spec (ws := Cond.code y bytes maxL ret :: xT) B.pre
  have hown : s.vm.findClass y.cls = some m.cls := findClass_of_methodNamed B.named
  have hD := hD0.self (sz := s.heap.size)
  generalize hAe : va_A (x_w cc ad shs hs) s.heap.size = A at hD ⊢
  have hA : ∀ q : Nat, s.heap.size ≤ q → A q := fun q h => by rw [← hAe]; exact Or.inr h
  have hl := lv_entry (av.map (x_cv ad)) (n := maxL) (hlen ad)
  rw [lg_entry_eq]
  refine h (p, l, e, (headSpec (Cond.code y bytes maxL ret :: xT) { frames := d, cells := mc, slots := ms, locals := 40 * d }).room, s, m, _, below, meth, c, D, cc, A, s.heap, ad, shs) ⟨B.exec, B.bytes, hml, hown, fun w hw => hts w (List.mem_cons_of_mem _ hw), hK, hA, B.returns, (name_of_methodNamed B.named B.method).1, B.notSynchronized, Nat.le_refl _, Nat.le_refl _, rfl, Nat.le_refl _, Nat.le_refl _⟩ ad s.heap [] _ hP hD va_S.rf ⟨fun _ h => h, fun _ _ => rfl⟩ ⟨_, hl, fun i v hi => ?_⟩ r hr
  exact x_args_in ad av 0 i v hi
/-! renaming of places -/
def x_rk (π : List Nat) (k : Nat) : Nat := 64 * π.getD (k / 64) (k / 64) + k % 64
def x_rv (π : List Nat) (v : Value) : Value := match v with
  | .ref k => .ref (x_rk π k)
  | w => w
def x_rκ (π : List Nat) (κ : Nat) : Nat := match κ with
  | 0 => 0
  | 1 => 1
  | 2 => 2
  | k + 3 => x_rk π k + 3
def x_rj (π : List Nat) (j : Nat) : Nat := match j with
  | 0 => 0
  | k + 1 => x_rk π k + 1
def x_rs (π : List Nat) (sh : XSh) : XSh := match sh with
  | .inl n => .inl n
  | .inr (.inl ks) => .inr (.inl (ks.map (x_rj π)))
  | .inr (.inr o) => .inr (.inr (o.1, o.2.map (x_rκ π)))
theorem x_rk_div (π : List Nat) (k : Nat) : x_rk π k / 64 = π.getD (k / 64) (k / 64) := by unfold x_rk; omega
theorem x_rk_mod (π : List Nat) (k : Nat) : x_rk π k % 64 = k % 64 := by unfold x_rk; omega
theorem x_rk_put (π : List Nat) (g q : Nat) (h : q < 64) : x_rk π (64 * g + q) = 64 * π.getD g g + q := by
  unfold x_rk
  rw [show (64 * g + q) / 64 = g by omega, show (64 * g + q) % 64 = q by omega]
theorem x_cv_rv (ad : Nat → Nat) (π : List Nat) (v : Value) : x_cv ad (x_rv π v) = x_cv (fun k => ad (x_rk π k)) v := by cases v <;> rfl
theorem x_fs_rn (ad : Nat → Nat) (π : List Nat) (k : Nat) : ∀ (κs : List Nat) (row : Nat → Int32) (i : Nat), x_fs ad (x_rk π k / 64) (κs.map (x_rκ π)) row i = x_fs (fun k => ad (x_rk π k)) (k / 64) κs row i
  | [], _, _ => rfl
  | κ :: r, row, i => by
    show x_fv ad (x_rk π k / 64) (x_rκ π κ) (row i) :: x_fs ad (x_rk π k / 64) (r.map (x_rκ π)) row (i + 1) = x_fv _ (k / 64) κ (row i) :: _
    rw [x_fs_rn ad π k r row (i + 1)]
    congr 1
    match κ with
    | 0 => rfl
    | 1 => rfl
    | 2 =>
      show (if row i = 0 then Value.null else .ref (ad (64 * (x_rk π k / 64) + (row i).toNatClampNeg % 64))) = if row i = 0 then Value.null else .ref (ad (x_rk π (64 * (k / 64) + (row i).toNatClampNeg % 64)))
      rw [x_rk_div, x_rk_put _ _ _ (Nat.mod_lt _ (by decide))]
    | j + 3 => rfl
theorem x_rf_rn (ad : Nat → Nat) (π : List Nat) (ks : List Nat) : x_rf ad (ks.map (x_rj π)) = x_rf (fun k => ad (x_rk π k)) ks := by
  funext i
  have h : (ks.map (x_rj π)).getD i 0 = x_rj π (ks.getD i 0) := by
    simp only [List.getD, List.getElem?_map]
    cases ks[i]? <;> rfl
  unfold x_rf
  rw [h]
  cases ks.getD i 0 <;> rfl
theorem x_cell_rn (cc : ClassId × ClassId) (ad : Nat → Nat) (π : List Nat) (k : Nat) (sh : XSh) (row : Nat → Int32) : x_cell cc ad (x_rk π k) (x_rs π sh) row = x_cell cc (fun k => ad (x_rk π k)) k sh row := by
  match sh with
  | .inl n => rfl
  | .inr (.inl ks) =>
    show Sum.inl (cc.2, ((ks.map (x_rj π)).length, _)) = Sum.inl (cc.2, (ks.length, _))
    rw [List.length_map, x_rf_rn]
  | .inr (.inr o) =>
    show Sum.inr (o.1, x_fs ad (x_rk π k / 64) (o.2.map (x_rκ π)) row 0) = _
    rw [x_fs_rn]; rfl
def x_okc (π : List Nat) (shsL shs : XSs) : Bool := shsL.all (fun q => decide (x_lk shs (x_rk π q.1) = some (x_rs π q.2)) && decide (q.1 / 64 < π.length)) && (va_nd (shsL.map (fun q => x_rk π q.1)) && (shs.all (fun q => !(π.contains (q.1 / 64)) || (shsL.map (fun q => x_rk π q.1)).contains q.1) && va_nd π))
def x_mrg : List Nat → List Mem → List Mem → List Mem
  | [], hs, _ => hs
  | g :: π, hs, ms => x_mrg π (hs.set g (ms.headD (fun _ _ => 0))) ms.tail
theorem x_mrg_out : ∀ (π : List Nat) (hs ms : List Mem) (g : Nat), g ∉ π → (x_mrg π hs ms).getD g (fun _ _ => 0) = hs.getD g (fun _ _ => 0)
  | [], _, _, _, _ => rfl
  | a :: π, hs, ms, g, h => by
    show (x_mrg π (hs.set a _) ms.tail).getD g _ = _
    rw [x_mrg_out π _ _ g (fun q => h (List.mem_cons_of_mem _ q))]
    have e : a ≠ g := fun q => h (by rw [q]; exact List.mem_cons_self)
    simp [List.getD, List.getElem?_set_ne e]
theorem x_mrg_in : ∀ (π : List Nat) (hs ms : List Mem), va_nd π = true → (∀ g ∈ π, g < hs.length) → ms.length = π.length → ∀ (j g : Nat), π[j]? = some g → (x_mrg π hs ms).getD g (fun _ _ => 0) = ms.getD j (fun _ _ => 0)
  | [], _, _, _, _, _, _, _, h => by simp at h
  | a :: π, hs, [], _, _, hl, _, _, _ => by simp at hl
  | a :: π, hs, m :: ms, hn, hb, hl, j, g, h => by
    simp only [va_nd, Bool.and_eq_true, decide_eq_true_eq] at hn
    show (x_mrg π (hs.set a m) ms).getD g _ = _
    cases j with
    | zero =>
      cases h
      rw [x_mrg_out π _ _ a hn.1]
      have := hb a List.mem_cons_self
      simp [List.getD, List.getElem?_set_self this]
    | succ j =>
      rw [x_mrg_in π (hs.set a m) ms hn.2 (fun g hg => by rw [List.length_set]; exact hb g (List.mem_cons_of_mem _ hg)) (by simpa using hl) j g h]
      rfl
theorem x_hs_sel {π : List Nat} {hs : List Mem} {k : Nat} (h : k / 64 < π.length) : x_hs (π.map (fun g => hs.getD g (fun _ _ => 0))) k = x_hs hs (x_rk π k) := by
  unfold x_hs
  rw [x_rk_div, x_rk_mod]
  congr 1
  simp only [List.getD, List.getElem?_map, List.getElem?_eq_getElem h, Option.map_some, Option.getD_some]
/-- the callee's world, cut out of the caller's -/
theorem x_cut {D : va_G} {cc : ClassId × ClassId} {A : Nat → Prop} {ad : Nat → Nat} {π : List Nat} {shsL shs : XSs} {hsL hs : List Mem} {H : Heap} (hok : x_okc π shsL shs = true) (hsel : π.map (fun g => hs.getD g (fun _ _ => 0)) = hsL) (hP : va_P D vwCl (x_w cc ad shs hs) H) (hD : va_D A (x_w cc ad shs hs)) :
    va_P D vwCl (x_w cc (fun k => ad (x_rk π k)) shsL hsL) H ∧ va_D A (x_w cc (fun k => ad (x_rk π k)) shsL hsL) ∧ ∀ q, q < H.size → va_A (x_w cc (fun k => ad (x_rk π k)) shsL hsL) H.size q → A q := by
  simp only [x_okc, Bool.and_eq_true, List.all_eq_true, decide_eq_true_eq] at hok
  obtain ⟨h1, h2, h3, h4⟩ := hok
  have at1 : ∀ (j k : Nat) (sh : XSh), shsL[j]? = some (k, sh) → ∃ i : Nat, shs[i]? = some (x_rk π k, x_rs π sh) ∧ k / 64 < π.length := fun j k sh hj => by
    obtain ⟨e1, e2⟩ := h1 _ (List.mem_of_getElem? hj)
    obtain ⟨i, hi⟩ := x_lk_at e1
    exact ⟨i, hi, e2⟩
  subst hsel
  refine ⟨fun j q hq => ?_, ⟨fun i j p q hi hj hpq => ?_, fun j q hq => ?_⟩, fun q hq hA => ?_⟩
  · obtain ⟨k, sh, hj, rfl⟩ := x_w_of hq
    obtain ⟨i, hi, hb⟩ := at1 j k sh hj
    have := hP i _ (x_w_at hi)
    rw [x_cell_rn, ← x_hs_sel hb] at this
    exact this
  · obtain ⟨k, sh, h5, rfl⟩ := x_w_of hi
    obtain ⟨k2, sh2, h6, rfl⟩ := x_w_of hj
    obtain ⟨i1, g1, -⟩ := at1 _ _ _ h5
    obtain ⟨i2, g2, -⟩ := at1 _ _ _ h6
    have hii := x_uniq hD g1 g2 hpq
    subst hii
    have hkk : x_rk π k = x_rk π k2 := by rw [g1] at g2; exact congrArg (fun z => (z.getD (0, .inl 0)).1) g2
    exact va_nd_inj _ h2 i j (x_rk π k) (by rw [List.getElem?_map, h5]; rfl) (by rw [List.getElem?_map, h6, hkk]; rfl)
  · obtain ⟨k, sh, hj, rfl⟩ := x_w_of hq
    obtain ⟨i, hi, -⟩ := at1 j k sh hj
    have h9 := hD.2 i _ (x_w_at (cc := cc) (ad := ad) (hs := hs) hi)
    exact h9
  · rcases hA with ⟨j, e, hj⟩ | hA
    · obtain ⟨k, sh, hj2, he⟩ := x_w_of hj
      obtain ⟨i, hi, -⟩ := at1 j k sh hj2
      have h9 := hD.2 i _ (x_w_at (cc := cc) (ad := ad) (hs := hs) hi)
      have e1 : q = ad (x_rk π k) := congrArg Prod.fst he
      rw [e1]; exact h9
    · omega
/-- and put back -/
theorem x_back {D : va_G} {cc : ClassId × ClassId} {A : Nat → Prop} {ad : Nat → Nat} {π : List Nat} {shsL shs : XSs} {hsL hs ms : List Mem} {H H1 : Heap} (hok : x_okc π shsL shs = true) (hml : ms.length = π.length) (hpl : ∀ g ∈ π, g < hs.length) (hP : va_P D vwCl (x_w cc ad shs hs) H) (hD : va_D A (x_w cc ad shs hs))
    (hk : ∀ q : Nat, q < H.size → ¬ va_A (x_w cc (fun k => ad (x_rk π k)) shsL hsL) H.size q → H1[q]? = H[q]?) (hP1 : va_P D vwCl (x_w cc (fun k => ad (x_rk π k)) shsL ms) H1) : va_P D vwCl (x_w cc ad shs (x_mrg π hs ms)) H1 := by
  simp only [x_okc, Bool.and_eq_true, List.all_eq_true, decide_eq_true_eq] at hok
  obtain ⟨h1, h2, h3, h4⟩ := hok
  intro i q hq
  obtain ⟨k, sh, hi, rfl⟩ := x_w_of hq
  by_cases hin : k ∈ shsL.map (fun q => x_rk π q.1)
  · obtain ⟨⟨kL, shL⟩, hm, rfl⟩ := List.mem_map.mp hin
    obtain ⟨j, hj⟩ := List.getElem?_of_mem hm
    obtain ⟨e1, e2⟩ := h1 _ hm
    obtain ⟨i2, hi2⟩ := x_lk_at e1
    have hii := x_uniq hD hi hi2 rfl
    subst hii
    have hsh : sh = x_rs π shL := by rw [hi] at hi2; exact congrArg (fun z => (z.getD (0, .inl 0)).2) hi2
    subst hsh
    have h5 := hP1 j _ (x_w_at (cc := cc) (ad := fun k => ad (x_rk π k)) (hs := ms) hj)
    have e3 : x_hs (x_mrg π hs ms) (x_rk π kL) = x_hs ms kL := by
      unfold x_hs
      rw [x_rk_div, x_rk_mod]
      have hg : π[kL / 64]? = some (π.getD (kL / 64) (kL / 64)) := by simp [List.getD, List.getElem?_eq_getElem e2]
      exact congrFun (x_mrg_in π hs ms h4 hpl hml _ _ hg) _
    rw [x_cell_rn, e3]
    exact h5
  · have hg : k / 64 ∉ π := fun hg => by
      have := h3 _ (List.mem_of_getElem? hi)
      have c1 : π.contains (k / 64) = true := List.elem_eq_true_of_mem hg
      simp only [c1, Bool.not_true, Bool.false_or] at this
      exact hin (List.mem_of_elem_eq_true this)
    have h5 := hP i _ (x_w_at hi)
    have hlt := h5.lt
    have hA : ¬ va_A (x_w cc (fun k => ad (x_rk π k)) shsL hsL) H.size (ad k) := by
      intro z
      rcases z with ⟨j, e, hj⟩ | z
      · obtain ⟨kL, shL, hj2, he⟩ := x_w_of hj
        obtain ⟨e1, e2⟩ := h1 _ (List.mem_of_getElem? hj2)
        obtain ⟨i2, hi2⟩ := x_lk_at e1
        have e3 : ad k = ad (x_rk π kL) := congrArg Prod.fst he
        have hii := x_uniq hD hi hi2 e3
        subst hii
        have hkk : k = x_rk π kL := by rw [hi] at hi2; exact congrArg (fun z => (z.getD (0, .inl 0)).1) hi2
        exact hin (List.mem_map.mpr ⟨(kL, shL), List.mem_of_getElem? hj2, hkk.symm⟩)
      · exact absurd hlt (Nat.not_lt.mpr z)
    have e3 : x_hs (x_mrg π hs ms) k = x_hs hs k := by
      unfold x_hs
      rw [x_mrg_out π hs ms _ hg]
    rw [e3]
    exact h5.kept (hk _ hlt hA)
section XCALL
variable {p : Program} {l : Launch} {e : Env} {R : Room} {s : State} {m : MethodId} {args : Array Value} {below : List Frame} {meth : Method} {c : Code} {H : Heap} {locs : List Loc} {cells slots : Nat} {Q : State → Prop} {pc : Nat} {ls : Array Slot} {rest st0 : List Value} {a : Array Value} {A0 : Nat → Prop} {H0 : Heap} {D : va_G} {cc : ClassId × ClassId}
/-- behind a call that makes no cell -/
theorem x_after {ad : Nat → Nat} {π : List Nat} {shsL shs : XSs} {hsL hs : List Mem} {rr : XR} (hr : va_Run p l e R s m args below meth c H locs cells slots 0 0 (F0 m pc ls st0) rest (XQ D cc (va_A (x_w cc (fun k => ad (x_rk π k)) shsL hsL) H.size) (fun k => ad (x_rk π k)) shsL shsL rr a) (va_A (x_w cc (fun k => ad (x_rk π k)) shsL hsL) H.size))
    (hok : x_okc π shsL shs = true) (hsel : π.map (fun g => hs.getD g (fun _ _ => 0)) = hsL) (hml : rr.2.length = π.length) (hpl : ∀ g ∈ π, g < hs.length) (hP : va_P D vwCl (x_w cc ad shs hs) H) (hD : va_D A0 (x_w cc ad shs hs)) (hS : va_S A0 H0 H locs) (hA : ∀ q, H0.size ≤ q → A0 q)
    (kk : ∀ (H1 : Heap) (locs1 : List Loc), va_P D vwCl (x_w cc ad shs (x_mrg π hs rr.2)) H1 → va_S A0 H0 H1 locs1 → W p l e R s m args below meth c H1 locs1 cells slots Q (F0 m (pc + 3) ls (((rr.1.map (x_rv π)).toList ).map (x_cv ad) ++ rest))) : W p l e R s m args below meth c H locs cells slots Q (F0 m pc ls st0) := by
  have hcut := x_cut hok hsel hP hD
  have hAA : ∀ q, va_A (x_w cc (fun k => ad (x_rk π k)) shsL hsL) H.size q → A0 q := fun q hq => by
    by_cases hz : q < H.size
    · exact hcut.2.2 q hz hq
    · exact hA q (Nat.le_trans hS.1 (Nat.not_lt.mp hz))
  intro T hT X
  obtain ⟨v, st₀, t, T', L, h0, X', hL, e1, e2, ⟨⟨ad', q1, hv, q2, q3, q4⟩, hz, hk⟩, st⟩ := hr T hT X
  have had : ad' = fun k => ad (x_rk π k) := funext fun k => q1 k (by by_cases z : x_lk shsL k = none; exact Or.inr z; exact Or.inl z)
  subst had
  have hv2 : v = rr.1.map (x_cv (fun k => ad (x_rk π k))) := by cases hv; rfl
  rw [h0] at hz hk
  have hP2 := x_back (hsL := hsL) hok hml hpl hP hD hk q2
  have hvv : v.toList = ((rr.1.map (x_rv π)).toList).map (x_cv ad) := by
    rw [hv2]
    cases rr.1 with
    | none => rfl
    | some u => show [_] = [_]; rw [x_cv_rv]
  obtain ⟨t2, a1, b1⟩ := kk T'.heap (locs ++ L) (by rw [e1]; exact hP2)
    ⟨Nat.le_trans hS.1 (by rw [e1]; exact hz), fun q h1 h2 => by rw [e1, hk q (Nat.lt_of_lt_of_le h1 hS.1) (fun z => h2 (hAA q z))]; exact hS.2.1 q h1 h2, fun q hq => by
      rcases List.mem_append.mp hq with h | h
      · exact hS.2.2 q h
      · exact hAA _ (hL q h)⟩ T' rfl (by have := X'; rwa [Nat.add_zero, Nat.add_zero] at this)
  rw [← hvv] at a1
  exact ⟨t2, st t2 a1, b1⟩
end XCALL
def XCV (own : String) (idx : Nat) (C : String) (y : MethodName) (bytes : ByteArray) (maxL : Nat) (ret : Option FieldType) (n : Nat) : Prop := Cond.methodLink own idx y ∈ xT ∧ Cond.instanceMethod y ∈ xT ∧ Cond.selects C y y ∈ xT ∧ Cond.initialized C ∈ xT ∧ Cond.code y bytes maxL ret ∈ xT ∧ (y.cls = C ∧ y.cls ≠ "java/lang/invoke/MethodHandle" ∧ y.cls ≠ "java/lang/invoke/VarHandle" ∧ (parseMethodDescriptor y.desc).map (fun d => d.parameters.length) = some n)
def XCS (own : String) (idx : Nat) (y : MethodName) (bytes : ByteArray) (maxL : Nat) (ret : Option FieldType) (n : Nat) : Prop := Cond.methodLink own idx y ∈ xT ∧ Cond.static y ∈ xT ∧ Cond.initialized y.cls ∈ xT ∧ Cond.code y bytes maxL ret ∈ xT ∧ (y.cls ≠ "java/lang/invoke/MethodHandle" ∧ y.cls ≠ "java/lang/invoke/VarHandle" ∧ (parseMethodDescriptor y.desc).map (fun d => d.parameters.length) = some n)
theorem x_cat_map (ad : Nat → Nat) (st : List Value) : ((st.map (x_cv ad)).map fun v => v.category).sum = (st.map fun v => v.category).sum := by rw [List.map_map, show ((fun v : Value => v.category) ∘ x_cv ad) = (fun v => v.category) from funext fun v => x_cv_cat ad v]
theorem x_blind {D : va_G} {cc : ClassId × ClassId} {av : List Value} {ad : Nat → Nat} {sz : Nat} {shs : XSs} {hs : List Mem} : FrameBlind (va_Pc (av.map (x_cv ad)) (fun U => U.heap.size = sz ∧ va_P D vwCl (x_w cc ad shs hs) U.heap ∧ va_K D vwCl (x_tys cc) U ∧ va_D (fun _ => True) (x_w cc ad shs hs))) := fun a U g mk q => by
  obtain ⟨q0, q1, qP, qK, qD⟩ := q
  exact ⟨q0, q1, qP, va_K.moved (u := U) (U := U.calling g mk a) (Vm.Alike.refl U.vm) qK, qD⟩

theorem XE_callV {α R : Type} {B : XB} {M : XM} {Q : R → State → Prop} {pc n : Nat} {ls : XLs} {st : List Value} {cs : Nat × Nat} {shs : XSs} {hs : List Mem} {k : α → Option R} {τ : Type} {o1 : Option τ} {f : τ → Option α} {idx ni d maxL : Nat} {y : MethodName} {bytes : ByteArray} {ret : Option FieldType} {av As stk : List Value} {π : List Nat} {shsL : XSs} {hsL : List Mem} {rv : τ → Option Value} {hsR hs2 : τ → List Mem} {C : String} {b ci : Nat} {κs : List Nat} (hx : XCV M.1 idx C y bytes maxL ret ni) (hM : ∀ l t, o1 = some t → XMet l y bytes maxL ret d 0 0 av shsL hsL shsL (rv t, hsR t)) (hav : av.map (x_rv π) = .ref b :: As) (hst : stk = As.reverse ++ .ref b :: st) (hni : As.length = ni) (hrc : x_lk shs b = some (.inr (.inr (ci, κs)))) (hcl : (vwCl[ci]?).map (fun q => q.1) = some C) (hd : decode M.2.1 pc = .ok (.invokevirtual idx, 3)) (hdp : d + 1 ≤ x_dp M) (hcs : cs.1 ≤ x_mc M ∧ cs.2 ≤ x_ms M) (hmL : maxL ≤ 21) (hcat : (st.map fun v => v.category).sum ≤ 8) (hok : x_okc π shsL shs = true) (hsel : π.map (fun g => hs.getD g (fun _ _ => 0)) = hsL) (hml : ∀ t, (hsR t).length = π.length) (hpl : ∀ g ∈ π, g < hs.length) (hmg : ∀ t, x_mrg π hs (hsR t) = hs2 t) (hn : pc + 3 = n) (kk : ∀ t, XE B M Q n ls (((rv t).map (x_rv π)).toList ++ st) cs shs (hs2 t) k (f t)) : XE B M Q pc ls stk cs shs hs k (o1.bind f) := by
  subst hn
  obtain ⟨p, l, e, Rm, s, m, args, below, meth, c, D, cc, A, H0, ad0, shs0⟩ := B
  intro hO ad H locs lsA hP hD hS hA hL r hr
  cases ho1 : o1 with
  | none => rw [ho1] at hr; cases hr
  | some t =>
  rw [ho1] at hr
  have hfr : x_dp M ≤ Rm.frames := hO.2.2.2.2.2.2.2.2.2.2.1
  have hlo : 40 * x_dp M ≤ Rm.locals := hO.2.2.2.2.2.2.2.2.2.2.2.1
  have hcl2 : cs.1 ≤ Rm.cells ∧ cs.2 ≤ Rm.slots := ⟨Nat.le_trans hcs.1 hO.2.2.2.2.2.2.2.2.2.2.2.2.2.1, Nat.le_trans hcs.2 hO.2.2.2.2.2.2.2.2.2.2.2.2.2.2⟩
  have hcut := x_cut hok hsel hP hD
  have hcode := List.mem_filter.mp hx.2.2.2.2.1
  subst hst
  obtain ⟨ib, hib⟩ := x_lk_at hrc
  obtain ⟨qc, hqc, hqC⟩ : ∃ q, vwCl[ci]? = some q ∧ q.1 = C := by
    cases z : vwCl[ci]? with
    | none => rw [z] at hcl; cases hcl
    | some q => rw [z] at hcl; exact ⟨q, rfl, Option.some.inj hcl⟩
  have hrecv : ∃ cell : Cell, H[ad b]? = some cell ∧ cell.vm.isStatics = false ∧ s.vm.findClass C = some cell.cls := by
    rw [← hqC]
    exact va_recv hO.2.2.2.2.2.1 hP (q0 := ib) (ci := ci) hqc (x_w_at hib)
  have hrun : va_Run p l e Rm s m args below meth c H locs cs.1 cs.2 0 0 (F0 m pc lsA ((As.reverse ++ .ref b :: st).map (x_cv ad))) (st.map (x_cv ad)) (XQ D cc (va_A (x_w cc (fun k => ad (x_rk π k)) shsL hsL) H.size) (fun k => ad (x_rk π k)) shsL shsL (rv t, hsR t) (Value.ref (ad b) :: As.map (x_cv ad)).toArray) (va_A (x_w cc (fun k => ad (x_rk π k)) shsL hsL) H.size) := by
    have hav2 : av.map (x_cv (fun k => ad (x_rk π k))) = (Value.ref (ad b) :: As.map (x_cv ad)) := by
      rw [show av.map (x_cv (fun k => ad (x_rk π k))) = (av.map (x_rv π)).map (x_cv ad) from by rw [List.map_map]; exact List.map_congr_left (fun v _ => (x_cv_rv ad π v).symm), hav] <;> rfl
    have hB : ∀ U : State, U.heap = H → s.WarmedH U.vm → va_Pc (av.map (x_cv (fun k => ad (x_rk π k)))) (fun U => U.heap.size = H.size ∧ va_P D vwCl (x_w cc (fun k => ad (x_rk π k)) shsL hsL) U.heap ∧ va_K D vwCl (x_tys cc) U ∧ va_D (fun _ => True) (x_w cc (fun k => ad (x_rk π k)) shsL hsL)) (Value.ref (ad b) :: As.map (x_cv ad)).toArray U := fun U hU hW => ⟨by rw [hav2], by rw [hU], by rw [hU]; exact hcut.1, va_K.moved hW.alike hO.2.2.2.2.2.1, hcut.2.1.weaken (fun _ _ _ _ => trivial)⟩
    have hzero : cs.1 + 0 ≤ Rm.cells ∧ cs.2 + 0 ≤ Rm.slots := ⟨hcl2.1, hcl2.2⟩
    exact va_runV (C := C) (b := ad b) (As := As.map (x_cv ad)) (n := ni) ⟨hO.1, hO.2.1, hO.2.2.1, hO.2.2.2.1, hO.2.2.2.2.1⟩ (hM l t ho1 D cc (fun k => ad (x_rk π k)) H.size) (cwV ni hO.2.2.2.2.1 (goodIn_tbl (fun w hw => by
        unfold wsV at hw
        simp only [List.cons_append, List.nil_append, List.mem_cons] at hw
        rcases hw with rfl | rfl | rfl | rfl | rfl | hw
        · exact hx.1
        · exact hx.2.1
        · exact hx.2.2.1
        · exact hx.2.2.2.1
        · exact hx.2.2.2.2.1
        · exact hw)) rfl rfl rfl hx.2.2.2.2.2 ⟨by show d + 1 ≤ Rm.frames; omega, by show 8 + (maxL + 11) + 40 * d ≤ Rm.locals; omega⟩) ⟨x_blind, hrecv, hB⟩ rfl (by rw [List.length_map]; exact hni) hL.size (by
        show ((As.reverse ++ Value.ref b :: st).map (x_cv ad)) = _
        rw [List.map_append, List.map_reverse]; rfl) (lv_room (by rw [x_cat_map]; exact hcat)) hd hzero
  refine x_after hrun hok hsel (hml t) hpl hP hD hS hO.2.2.2.2.2.2.1 (fun H1 locs1 g1 g3 => ?_)
  have g1' : va_P D vwCl (x_w cc ad shs (x_mrg π hs (hsR t))) H1 := g1
  rw [hmg t] at g1'
  have := kk t hO ad H1 locs1 lsA g1' (x_D_any hD) g3 hA hL r hr
  rw [List.map_append] at this
  exact this
theorem XE_callS {α R : Type} {B : XB} {M : XM} {Q : R → State → Prop} {pc n : Nat} {ls : XLs} {st : List Value} {cs : Nat × Nat} {shs : XSs} {hs : List Mem} {k : α → Option R} {τ : Type} {o1 : Option τ} {f : τ → Option α} {idx ni d maxL : Nat} {y : MethodName} {bytes : ByteArray} {ret : Option FieldType} {av As stk : List Value} {π : List Nat} {shsL : XSs} {hsL : List Mem} {rv : τ → Option Value} {hsR hs2 : τ → List Mem} (hx : XCS M.1 idx y bytes maxL ret ni) (hM : ∀ l t, o1 = some t → XMet l y bytes maxL ret d 0 0 av shsL hsL shsL (rv t, hsR t)) (hav : av.map (x_rv π) = As) (hst : stk = As.reverse ++ st) (hni : As.length = ni) (hd : decode M.2.1 pc = .ok (.invokestatic idx, 3)) (hdp : d + 1 ≤ x_dp M) (hcs : cs.1 ≤ x_mc M ∧ cs.2 ≤ x_ms M) (hmL : maxL ≤ 21) (hcat : (st.map fun v => v.category).sum ≤ 8) (hok : x_okc π shsL shs = true) (hsel : π.map (fun g => hs.getD g (fun _ _ => 0)) = hsL) (hml : ∀ t, (hsR t).length = π.length) (hpl : ∀ g ∈ π, g < hs.length) (hmg : ∀ t, x_mrg π hs (hsR t) = hs2 t) (hn : pc + 3 = n) (kk : ∀ t, XE B M Q n ls (((rv t).map (x_rv π)).toList ++ st) cs shs (hs2 t) k (f t)) : XE B M Q pc ls stk cs shs hs k (o1.bind f) := by
  subst hn
  obtain ⟨p, l, e, Rm, s, m, args, below, meth, c, D, cc, A, H0, ad0, shs0⟩ := B
  intro hO ad H locs lsA hP hD hS hA hL r hr
  cases ho1 : o1 with
  | none => rw [ho1] at hr; cases hr
  | some t =>
  rw [ho1] at hr
  have hfr : x_dp M ≤ Rm.frames := hO.2.2.2.2.2.2.2.2.2.2.1
  have hlo : 40 * x_dp M ≤ Rm.locals := hO.2.2.2.2.2.2.2.2.2.2.2.1
  have hcl2 : cs.1 ≤ Rm.cells ∧ cs.2 ≤ Rm.slots := ⟨Nat.le_trans hcs.1 hO.2.2.2.2.2.2.2.2.2.2.2.2.2.1, Nat.le_trans hcs.2 hO.2.2.2.2.2.2.2.2.2.2.2.2.2.2⟩
  have hcut := x_cut hok hsel hP hD
  have hcode := List.mem_filter.mp hx.2.2.2.1
  subst hst
  have hrun : va_Run p l e Rm s m args below meth c H locs cs.1 cs.2 0 0 (F0 m pc lsA ((As.reverse ++ st).map (x_cv ad))) (st.map (x_cv ad)) (XQ D cc (va_A (x_w cc (fun k => ad (x_rk π k)) shsL hsL) H.size) (fun k => ad (x_rk π k)) shsL shsL (rv t, hsR t) (As.map (x_cv ad)).toArray) (va_A (x_w cc (fun k => ad (x_rk π k)) shsL hsL) H.size) := by
    have hav2 : av.map (x_cv (fun k => ad (x_rk π k))) = (As.map (x_cv ad)) := by
      rw [show av.map (x_cv (fun k => ad (x_rk π k))) = (av.map (x_rv π)).map (x_cv ad) from by rw [List.map_map]; exact List.map_congr_left (fun v _ => (x_cv_rv ad π v).symm), hav] <;> rfl
    have hB : ∀ U : State, U.heap = H → s.WarmedH U.vm → va_Pc (av.map (x_cv (fun k => ad (x_rk π k)))) (fun U => U.heap.size = H.size ∧ va_P D vwCl (x_w cc (fun k => ad (x_rk π k)) shsL hsL) U.heap ∧ va_K D vwCl (x_tys cc) U ∧ va_D (fun _ => True) (x_w cc (fun k => ad (x_rk π k)) shsL hsL)) (As.map (x_cv ad)).toArray U := fun U hU hW => ⟨by rw [hav2], by rw [hU], by rw [hU]; exact hcut.1, va_K.moved hW.alike hO.2.2.2.2.2.1, hcut.2.1.weaken (fun _ _ _ _ => trivial)⟩
    have hzero : cs.1 + 0 ≤ Rm.cells ∧ cs.2 + 0 ≤ Rm.slots := ⟨hcl2.1, hcl2.2⟩
    exact va_runS (As := As.map (x_cv ad)) (n := ni) ⟨hO.1, hO.2.1, hO.2.2.1, hO.2.2.2.1, hO.2.2.2.2.1⟩ (hM l t ho1 D cc (fun k => ad (x_rk π k)) H.size) (va_cwS ni hO.2.2.2.2.1 (goodIn_tbl (fun w hw => by
        unfold va_wsS at hw
        simp only [List.cons_append, List.nil_append, List.mem_cons] at hw
        rcases hw with rfl | rfl | rfl | rfl | hw
        · exact hx.1
        · exact hx.2.1
        · exact hx.2.2.1
        · exact hx.2.2.2.1
        · exact hw)) rfl rfl rfl hx.2.2.2.2 ⟨by show d + 1 ≤ Rm.frames; omega, by show 8 + (maxL + 11) + 40 * d ≤ Rm.locals; omega⟩) ⟨x_blind, hB⟩ rfl (by rw [List.length_map]; exact hni) hL.size (by
        show ((As.reverse ++ st).map (x_cv ad)) = _
        rw [List.map_append, List.map_reverse]) (lv_room (by rw [x_cat_map]; exact hcat)) hd hzero
  refine x_after hrun hok hsel (hml t) hpl hP hD hS hO.2.2.2.2.2.2.1 (fun H1 locs1 g1 g3 => ?_)
  have g1' : va_P D vwCl (x_w cc ad shs (x_mrg π hs (hsR t))) H1 := g1
  rw [hmg t] at g1'
  have := kk t hO ad H1 locs1 lsA g1' (x_D_any hD) g3 hA hL r hr
  rw [List.map_append] at this
  exact this
theorem XE_ireturn {α : Type} {B : XB} {M : XM} {pc : Nat} {ls : XLs} {mc ms c0 s0 : Nat} {shs : XSs} {hs : List Mem} {k : α → Option XR} {t : α} {v : Int32} (hm : M.2.2.2.1 = some .int) (hd : decode M.2.1 pc = .ok (.ireturn, 1)) (hk : k t = some ((some (.int v)), hs)) (hc : c0 ≤ mc) (hs0 : s0 ≤ ms) : XE B M (XQm B mc ms shs) pc ls [.int v] (c0, s0) shs hs k (some t) := by
  obtain ⟨p, l, e, Rm, s, m, args, below, meth, c, D, cc, A, H0, ad0, shs0⟩ := B
  intro hO ad H locs lsA hP hD hS hA hL r hr
  have hr2 : k t = some r := hr
  rw [hk] at hr2
  cases hr2
  have hH0 : H0 = s.heap := hO.2.2.2.2.2.2.2.2.2.2.2.2.1
  subst hH0
  refine W.widen (k := mc) (n := ms) hc hs0 ?_
  exact W.iret (Qc := XQ D cc A ad0 shs0 shs ((some (.int v)), hs)) hO.1 hO.2.1 (hO.2.2.2.2.2.2.2.1.trans hm) (fun t ht hW => ⟨⟨ad, hA.2, rfl, by rw [ht]; exact hP, va_K.moved hW.alike hO.2.2.2.2.2.1, hD⟩, hS.F ht⟩) hS.2.2 hd hO.2.2.2.2.2.2.2.2.2.1
theorem XE_zreturn {α : Type} {B : XB} {M : XM} {pc : Nat} {ls : XLs} {mc ms c0 s0 : Nat} {shs : XSs} {hs : List Mem} {k : α → Option XR} {t : α} {v : Int32} (hz : isb v = true) (hm : M.2.2.2.1 = some .boolean) (hd : decode M.2.1 pc = .ok (.ireturn, 1)) (hk : k t = some ((some (.int v)), hs)) (hc : c0 ≤ mc) (hs0 : s0 ≤ ms) : XE B M (XQm B mc ms shs) pc ls [.int v] (c0, s0) shs hs k (some t) := by
  obtain ⟨p, l, e, Rm, s, m, args, below, meth, c, D, cc, A, H0, ad0, shs0⟩ := B
  intro hO ad H locs lsA hP hD hS hA hL r hr
  have hr2 : k t = some r := hr
  rw [hk] at hr2
  cases hr2
  have hH0 : H0 = s.heap := hO.2.2.2.2.2.2.2.2.2.2.2.2.1
  subst hH0
  refine W.widen (k := mc) (n := ms) hc hs0 ?_
  exact W.zret (Qc := XQ D cc A ad0 shs0 shs ((some (.int v)), hs)) hO.1 hO.2.1 (hO.2.2.2.2.2.2.2.1.trans hm) (narrow_isb hz) (fun t ht hW => ⟨⟨ad, hA.2, rfl, by rw [ht]; exact hP, va_K.moved hW.alike hO.2.2.2.2.2.1, hD⟩, hS.F ht⟩) hS.2.2 hd hO.2.2.2.2.2.2.2.2.2.1
theorem XE_lreturn {α : Type} {B : XB} {M : XM} {pc : Nat} {ls : XLs} {mc ms c0 s0 : Nat} {shs : XSs} {hs : List Mem} {k : α → Option XR} {t : α} {v : Int64} (hm : M.2.2.2.1 = some .long) (hd : decode M.2.1 pc = .ok (.lreturn, 1)) (hk : k t = some ((some (.long v)), hs)) (hc : c0 ≤ mc) (hs0 : s0 ≤ ms) : XE B M (XQm B mc ms shs) pc ls [.long v] (c0, s0) shs hs k (some t) := by
  obtain ⟨p, l, e, Rm, s, m, args, below, meth, c, D, cc, A, H0, ad0, shs0⟩ := B
  intro hO ad H locs lsA hP hD hS hA hL r hr
  have hr2 : k t = some r := hr
  rw [hk] at hr2
  cases hr2
  have hH0 : H0 = s.heap := hO.2.2.2.2.2.2.2.2.2.2.2.2.1
  subst hH0
  refine W.widen (k := mc) (n := ms) hc hs0 ?_
  exact W.lret (Qc := XQ D cc A ad0 shs0 shs ((some (.long v)), hs)) hO.1 hO.2.1 (hO.2.2.2.2.2.2.2.1.trans hm) (fun t ht hW => ⟨⟨ad, hA.2, rfl, by rw [ht]; exact hP, va_K.moved hW.alike hO.2.2.2.2.2.1, hD⟩, hS.F ht⟩) hS.2.2 hd hO.2.2.2.2.2.2.2.2.2.1
theorem XE_vreturn {α : Type} {B : XB} {M : XM} {pc : Nat} {ls : XLs} {mc ms c0 s0 : Nat} {shs : XSs} {hs : List Mem} {k : α → Option XR} {t : α}  (hm : M.2.2.2.1 = none) (hd : decode M.2.1 pc = .ok (.return_, 1)) (hk : k t = some (none, hs)) (hc : c0 ≤ mc) (hs0 : s0 ≤ ms) : XE B M (XQm B mc ms shs) pc ls [] (c0, s0) shs hs k (some t) := by
  obtain ⟨p, l, e, Rm, s, m, args, below, meth, c, D, cc, A, H0, ad0, shs0⟩ := B
  intro hO ad H locs lsA hP hD hS hA hL r hr
  have hr2 : k t = some r := hr
  rw [hk] at hr2
  cases hr2
  have hH0 : H0 = s.heap := hO.2.2.2.2.2.2.2.2.2.2.2.2.1
  subst hH0
  refine W.widen (k := mc) (n := ms) hc hs0 ?_
  exact W.vret (Qc := XQ D cc A ad0 shs0 shs (none, hs)) hO.1 hO.2.1 (hO.2.2.2.2.2.2.2.1.trans hm) (fun t ht hW => ⟨⟨ad, hA.2, rfl, by rw [ht]; exact hP, va_K.moved hW.alike hO.2.2.2.2.2.1, hD⟩, hS.F ht⟩) hS.2.2 hd hO.2.2.2.2.2.2.2.2.2.1
theorem XE_areturn {α : Type} {B : XB} {M : XM} {pc : Nat} {ls : XLs} {mc ms c0 s0 : Nat} {shs : XSs} {hs : List Mem} {k : α → Option XR} {t : α} {v : Nat} {rt : FieldType} (hrt : (∃ z, rt = .object z) ∨ ∃ t, rt = .array t) (hm : M.2.2.2.1 = some rt) (hd : decode M.2.1 pc = .ok (.areturn, 1)) (hk : k t = some ((some (.ref v)), hs)) (hc : c0 ≤ mc) (hs0 : s0 ≤ ms) : XE B M (XQm B mc ms shs) pc ls [.ref v] (c0, s0) shs hs k (some t) := by
  obtain ⟨p, l, e, Rm, s, m, args, below, meth, c, D, cc, A, H0, ad0, shs0⟩ := B
  intro hO ad H locs lsA hP hD hS hA hL r hr
  have hr2 : k t = some r := hr
  rw [hk] at hr2
  cases hr2
  have hH0 : H0 = s.heap := hO.2.2.2.2.2.2.2.2.2.2.2.2.1
  subst hH0
  refine W.widen (k := mc) (n := ms) hc hs0 ?_
  exact W.aret (Qc := XQ D cc A ad0 shs0 shs ((some (.ref v)), hs)) hO.1 hO.2.1 (hO.2.2.2.2.2.2.2.1.trans hm) hrt (Or.inr ⟨_, rfl⟩) (fun t ht hW => ⟨⟨ad, hA.2, rfl, by rw [ht]; exact hP, va_K.moved hW.alike hO.2.2.2.2.2.1, hD⟩, hS.F ht⟩) hS.2.2 hd hO.2.2.2.2.2.2.2.2.2.1
end
section
/-! LINKS: what the entries of the pools name, each by its place among the words -/
theorem xT_m0 {w : Cond} (i : Nat) (h : (k2_sels lw_privs)[i]? = some w) (hg : goodWord w = true) : w ∈ xT := List.mem_filter.mpr ⟨List.mem_append_left _ (List.mem_of_getElem? h), hg⟩
theorem xT_m1 {w : Cond} (i : Nat) (h : tables_1_1[i]? = some w) (hg : goodWord w = true) : w ∈ xT := List.mem_filter.mpr ⟨List.mem_append_right _ (List.mem_append_left _ (List.mem_of_getElem? h)), hg⟩
theorem xT_m2 {w : Cond} (i : Nat) (h : tables_1_2[i]? = some w) (hg : goodWord w = true) : w ∈ xT := List.mem_filter.mpr ⟨List.mem_append_right _ (List.mem_append_right _ (List.mem_append_left _ (List.mem_of_getElem? h))), hg⟩
theorem xT_m3 {w : Cond} (i : Nat) (h : tables_1_3[i]? = some w) (hg : goodWord w = true) : w ∈ xT := List.mem_filter.mpr ⟨List.mem_append_right _ (List.mem_append_right _ (List.mem_append_right _ (List.mem_append_left _ (List.mem_of_getElem? h)))), hg⟩
theorem xT_m4 {w : Cond} (i : Nat) (h : tables_1_4[i]? = some w) (hg : goodWord w = true) : w ∈ xT := List.mem_filter.mpr ⟨List.mem_append_right _ (List.mem_append_right _ (List.mem_append_right _ (List.mem_append_right _ (List.mem_append_left _ (List.mem_of_getElem? h))))), hg⟩
theorem xT_m5 {w : Cond} (i : Nat) (h : tables_1_5[i]? = some w) (hg : goodWord w = true) : w ∈ xT := List.mem_filter.mpr ⟨List.mem_append_right _ (List.mem_append_right _ (List.mem_append_right _ (List.mem_append_right _ (List.mem_append_right _ (List.mem_append_left _ (List.mem_of_getElem? h)))))), hg⟩
theorem xT_m6 {w : Cond} (i : Nat) (h : tables_1_6[i]? = some w) (hg : goodWord w = true) : w ∈ xT := List.mem_filter.mpr ⟨List.mem_append_right _ (List.mem_append_right _ (List.mem_append_right _ (List.mem_append_right _ (List.mem_append_right _ (List.mem_append_right _ (List.mem_of_getElem? h)))))), hg⟩
set_option maxRecDepth 20000 in
theorem iwX0 : ∀ w ∈ u_ws RX0 TX0 5, w ∈ xT := fun w hw => List.mem_filter.mpr ⟨(by decide +kernel : ∀ w ∈ u_ws RX0 TX0 5, w ∈ lw_tbl) w hw, (by decide +kernel : ∀ w ∈ u_ws RX0 TX0 5, goodWord w = true) w hw⟩
set_option maxRecDepth 20000 in
theorem iwX1 : ∀ w ∈ u_ws RX1 TX1 3, w ∈ xT := fun w hw => List.mem_filter.mpr ⟨(by decide +kernel : ∀ w ∈ u_ws RX1 TX1 3, w ∈ lw_tbl) w hw, (by decide +kernel : ∀ w ∈ u_ws RX1 TX1 3, goodWord w = true) w hw⟩
set_option maxRecDepth 20000 in
theorem iwX2 : ∀ w ∈ u_ws RX2 TX2 14, w ∈ xT := fun w hw => List.mem_filter.mpr ⟨(by decide +kernel : ∀ w ∈ u_ws RX2 TX2 14, w ∈ lw_tbl) w hw, (by decide +kernel : ∀ w ∈ u_ws RX2 TX2 14, goodWord w = true) w hw⟩
set_option maxRecDepth 20000 in
theorem iwX4 : ∀ w ∈ u_ws RX4 TX4 2, w ∈ xT := fun w hw => List.mem_filter.mpr ⟨(by decide +kernel : ∀ w ∈ u_ws RX4 TX4 2, w ∈ lw_tbl) w hw, (by decide +kernel : ∀ w ∈ u_ws RX4 TX4 2, goodWord w = true) w hw⟩
set_option maxRecDepth 20000 in
theorem iwX5 : ∀ w ∈ u_ws RX5 TX5 3, w ∈ xT := fun w hw => List.mem_filter.mpr ⟨(by decide +kernel : ∀ w ∈ u_ws RX5 TX5 3, w ∈ lw_tbl) w hw, (by decide +kernel : ∀ w ∈ u_ws RX5 TX5 3, goodWord w = true) w hw⟩
set_option maxRecDepth 20000 in
theorem iwX6 : ∀ w ∈ u_ws RX6 TX6 11, w ∈ xT := fun w hw => List.mem_filter.mpr ⟨(by decide +kernel : ∀ w ∈ u_ws RX6 TX6 11, w ∈ lw_tbl) w hw, (by decide +kernel : ∀ w ∈ u_ws RX6 TX6 11, goodWord w = true) w hw⟩
set_option maxRecDepth 20000 in
theorem iwX7 : ∀ w ∈ u_ws RX7 TX7 39, w ∈ xT := fun w hw => List.mem_filter.mpr ⟨(by decide +kernel : ∀ w ∈ u_ws RX7 TX7 39, w ∈ lw_tbl) w hw, (by decide +kernel : ∀ w ∈ u_ws RX7 TX7 39, goodWord w = true) w hw⟩
theorem xf_X2_9 : XF RX2 9 2 0 (.int) false true := ⟨RX2, TX2, 14, tyX2, rfl, by decide, xT_m1 26 (by decide +kernel) rfl, iwX2, tyX2_ok, rfl, nmX2, rfl, fun h => rfl⟩
theorem xf_X1_24 : XF RX1 24 2 0 (.int) false false := ⟨RX2, TX2, 14, tyX2, rfl, by decide, xT_m1 27 (by decide +kernel) rfl, iwX2, tyX2_ok, rfl, nmX2, rfl, fun h => by cases h⟩
theorem xf_X0_63 : XF RX0 63 2 0 (.int) false false := ⟨RX2, TX2, 14, tyX2, rfl, by decide, xT_m1 28 (by decide +kernel) rfl, iwX2, tyX2_ok, rfl, nmX2, rfl, fun h => by cases h⟩
theorem xf_X6_148 : XF RX6 148 2 0 (.int) false false := ⟨RX2, TX2, 14, tyX2, rfl, by decide, xT_m1 29 (by decide +kernel) rfl, iwX2, tyX2_ok, rfl, nmX2, rfl, fun h => by cases h⟩
theorem xf_X2_15 : XF RX2 15 2 1 (.array .int) true true := ⟨RX2, TX2, 14, tyX2, rfl, by decide, xT_m1 30 (by decide +kernel) rfl, iwX2, tyX2_ok, rfl, nmX2, rfl, fun h => rfl⟩
theorem xf_X1_40 : XF RX1 40 2 1 (.array .int) true false := ⟨RX2, TX2, 14, tyX2, rfl, by decide, xT_m1 31 (by decide +kernel) rfl, iwX2, tyX2_ok, rfl, nmX2, rfl, fun h => by cases h⟩
theorem xf_X6_98 : XF RX6 98 2 1 (.array .int) true false := ⟨RX2, TX2, 14, tyX2, rfl, by decide, xT_m1 32 (by decide +kernel) rfl, iwX2, tyX2_ok, rfl, nmX2, rfl, fun h => by cases h⟩
theorem xf_X2_19 : XF RX2 19 2 2 (.array .int) true true := ⟨RX2, TX2, 14, tyX2, rfl, by decide, xT_m1 33 (by decide +kernel) rfl, iwX2, tyX2_ok, rfl, nmX2, rfl, fun h => rfl⟩
theorem xf_X1_43 : XF RX1 43 2 2 (.array .int) true false := ⟨RX2, TX2, 14, tyX2, rfl, by decide, xT_m1 34 (by decide +kernel) rfl, iwX2, tyX2_ok, rfl, nmX2, rfl, fun h => by cases h⟩
theorem xf_X6_101 : XF RX6 101 2 2 (.array .int) true false := ⟨RX2, TX2, 14, tyX2, rfl, by decide, xT_m1 35 (by decide +kernel) rfl, iwX2, tyX2_ok, rfl, nmX2, rfl, fun h => by cases h⟩
theorem xf_X2_22 : XF RX2 22 2 3 (.array .int) true true := ⟨RX2, TX2, 14, tyX2, rfl, by decide, xT_m1 36 (by decide +kernel) rfl, iwX2, tyX2_ok, rfl, nmX2, rfl, fun h => rfl⟩
theorem xf_X6_104 : XF RX6 104 2 3 (.array .int) true false := ⟨RX2, TX2, 14, tyX2, rfl, by decide, xT_m1 37 (by decide +kernel) rfl, iwX2, tyX2_ok, rfl, nmX2, rfl, fun h => by cases h⟩
theorem xf_X2_25 : XF RX2 25 2 4 (.int) false true := ⟨RX2, TX2, 14, tyX2, rfl, by decide, xT_m1 38 (by decide +kernel) rfl, iwX2, tyX2_ok, rfl, nmX2, rfl, fun h => rfl⟩
theorem xf_X0_40 : XF RX0 40 2 4 (.int) false false := ⟨RX2, TX2, 14, tyX2, rfl, by decide, xT_m1 39 (by decide +kernel) rfl, iwX2, tyX2_ok, rfl, nmX2, rfl, fun h => by cases h⟩
theorem xf_X6_306 : XF RX6 306 2 4 (.int) false false := ⟨RX2, TX2, 14, tyX2, rfl, by decide, xT_m1 40 (by decide +kernel) rfl, iwX2, tyX2_ok, rfl, nmX2, rfl, fun h => by cases h⟩
theorem xf_X2_28 : XF RX2 28 2 5 (.array .int) true true := ⟨RX2, TX2, 14, tyX2, rfl, by decide, xT_m1 41 (by decide +kernel) rfl, iwX2, tyX2_ok, rfl, nmX2, rfl, fun h => rfl⟩
theorem xf_X6_187 : XF RX6 187 2 5 (.array .int) true false := ⟨RX2, TX2, 14, tyX2, rfl, by decide, xT_m1 42 (by decide +kernel) rfl, iwX2, tyX2_ok, rfl, nmX2, rfl, fun h => by cases h⟩
theorem xf_X2_31 : XF RX2 31 2 6 (.array .int) true true := ⟨RX2, TX2, 14, tyX2, rfl, by decide, xT_m1 43 (by decide +kernel) rfl, iwX2, tyX2_ok, rfl, nmX2, rfl, fun h => rfl⟩
theorem xf_X1_31 : XF RX1 31 2 6 (.array .int) true false := ⟨RX2, TX2, 14, tyX2, rfl, by decide, xT_m1 44 (by decide +kernel) rfl, iwX2, tyX2_ok, rfl, nmX2, rfl, fun h => by cases h⟩
theorem xf_X6_161 : XF RX6 161 2 6 (.array .int) true false := ⟨RX2, TX2, 14, tyX2, rfl, by decide, xT_m1 45 (by decide +kernel) rfl, iwX2, tyX2_ok, rfl, nmX2, rfl, fun h => by cases h⟩
theorem xf_X2_34 : XF RX2 34 2 7 (.array .int) true true := ⟨RX2, TX2, 14, tyX2, rfl, by decide, xT_m1 46 (by decide +kernel) rfl, iwX2, tyX2_ok, rfl, nmX2, rfl, fun h => rfl⟩
theorem xf_X6_190 : XF RX6 190 2 7 (.array .int) true false := ⟨RX2, TX2, 14, tyX2, rfl, by decide, xT_m1 47 (by decide +kernel) rfl, iwX2, tyX2_ok, rfl, nmX2, rfl, fun h => by cases h⟩
theorem xf_X2_37 : XF RX2 37 2 8 (.int) false true := ⟨RX2, TX2, 14, tyX2, rfl, by decide, xT_m1 48 (by decide +kernel) rfl, iwX2, tyX2_ok, rfl, nmX2, rfl, fun h => rfl⟩
theorem xf_X0_36 : XF RX0 36 2 8 (.int) false false := ⟨RX2, TX2, 14, tyX2, rfl, by decide, xT_m1 49 (by decide +kernel) rfl, iwX2, tyX2_ok, rfl, nmX2, rfl, fun h => by cases h⟩
theorem xf_X6_125 : XF RX6 125 2 8 (.int) false false := ⟨RX2, TX2, 14, tyX2, rfl, by decide, xT_m1 50 (by decide +kernel) rfl, iwX2, tyX2_ok, rfl, nmX2, rfl, fun h => by cases h⟩
theorem xf_X4_80 : XF RX4 80 2 8 (.int) false false := ⟨RX2, TX2, 14, tyX2, rfl, by decide, xT_m1 51 (by decide +kernel) rfl, iwX2, tyX2_ok, rfl, nmX2, rfl, fun h => by cases h⟩
theorem xf_X2_40 : XF RX2 40 2 9 (.array .int) true true := ⟨RX2, TX2, 14, tyX2, rfl, by decide, xT_m1 52 (by decide +kernel) rfl, iwX2, tyX2_ok, rfl, nmX2, rfl, fun h => rfl⟩
theorem xf_X6_128 : XF RX6 128 2 9 (.array .int) true false := ⟨RX2, TX2, 14, tyX2, rfl, by decide, xT_m1 53 (by decide +kernel) rfl, iwX2, tyX2_ok, rfl, nmX2, rfl, fun h => by cases h⟩
theorem xf_X2_43 : XF RX2 43 2 10 (.int) false true := ⟨RX2, TX2, 14, tyX2, rfl, by decide, xT_m1 54 (by decide +kernel) rfl, iwX2, tyX2_ok, rfl, nmX2, rfl, fun h => rfl⟩
theorem xf_X6_131 : XF RX6 131 2 10 (.int) false false := ⟨RX2, TX2, 14, tyX2, rfl, by decide, xT_m1 55 (by decide +kernel) rfl, iwX2, tyX2_ok, rfl, nmX2, rfl, fun h => by cases h⟩
theorem xf_X2_46 : XF RX2 46 2 11 (.array .int) true true := ⟨RX2, TX2, 14, tyX2, rfl, by decide, xT_m1 56 (by decide +kernel) rfl, iwX2, tyX2_ok, rfl, nmX2, rfl, fun h => rfl⟩
theorem xf_X0_57 : XF RX0 57 2 11 (.array .int) true false := ⟨RX2, TX2, 14, tyX2, rfl, by decide, xT_m1 57 (by decide +kernel) rfl, iwX2, tyX2_ok, rfl, nmX2, rfl, fun h => by cases h⟩
theorem xf_X6_134 : XF RX6 134 2 11 (.array .int) true false := ⟨RX2, TX2, 14, tyX2, rfl, by decide, xT_m1 58 (by decide +kernel) rfl, iwX2, tyX2_ok, rfl, nmX2, rfl, fun h => by cases h⟩
theorem xf_X2_49 : XF RX2 49 2 12 (.int) false true := ⟨RX2, TX2, 14, tyX2, rfl, by decide, xT_m1 59 (by decide +kernel) rfl, iwX2, tyX2_ok, rfl, nmX2, rfl, fun h => rfl⟩
theorem xf_X0_60 : XF RX0 60 2 12 (.int) false false := ⟨RX2, TX2, 14, tyX2, rfl, by decide, xT_m1 60 (by decide +kernel) rfl, iwX2, tyX2_ok, rfl, nmX2, rfl, fun h => by cases h⟩
theorem xf_X6_173 : XF RX6 173 2 12 (.int) false false := ⟨RX2, TX2, 14, tyX2, rfl, by decide, xT_m1 61 (by decide +kernel) rfl, iwX2, tyX2_ok, rfl, nmX2, rfl, fun h => by cases h⟩
theorem xf_X2_52 : XF RX2 52 2 13 (.int) false true := ⟨RX2, TX2, 14, tyX2, rfl, by decide, xT_m1 62 (by decide +kernel) rfl, iwX2, tyX2_ok, rfl, nmX2, rfl, fun h => rfl⟩
theorem xf_X4_38 : XF RX4 38 2 13 (.int) false false := ⟨RX2, TX2, 14, tyX2, rfl, by decide, xT_m1 63 (by decide +kernel) rfl, iwX2, tyX2_ok, rfl, nmX2, rfl, fun h => by cases h⟩
theorem xf_X6_170 : XF RX6 170 2 13 (.int) false false := ⟨RX2, TX2, 14, tyX2, rfl, by decide, xT_m1 64 (by decide +kernel) rfl, iwX2, tyX2_ok, rfl, nmX2, rfl, fun h => by cases h⟩
theorem xf_X5_11 : XF RX5 11 4 0 (.array (.object "EveryTwentyMinutes$Hall")) true true := ⟨RX5, TX5, 3, tyX5, rfl, by decide, xT_m1 104 (by decide +kernel) rfl, iwX5, tyX5_ok, rfl, nmX5, rfl, fun h => rfl⟩
theorem xf_X5_15 : XF RX5 15 4 1 (.int) false true := ⟨RX5, TX5, 3, tyX5, rfl, by decide, xT_m1 105 (by decide +kernel) rfl, iwX5, tyX5_ok, rfl, nmX5, rfl, fun h => rfl⟩
theorem xf_X5_19 : XF RX5 19 4 2 (.int) false true := ⟨RX5, TX5, 3, tyX5, rfl, by decide, xT_m1 106 (by decide +kernel) rfl, iwX5, tyX5_ok, rfl, nmX5, rfl, fun h => rfl⟩
theorem xf_X6_183 : XF RX6 183 4 2 (.int) false false := ⟨RX5, TX5, 3, tyX5, rfl, by decide, xT_m1 107 (by decide +kernel) rfl, iwX5, tyX5_ok, rfl, nmX5, rfl, fun h => by cases h⟩
theorem xf_X4_11 : XF RX4 11 3 0 (.array .int) true true := ⟨RX4, TX4, 2, tyX4, rfl, by decide, xT_m1 121 (by decide +kernel) rfl, iwX4, tyX4_ok, rfl, nmX4, rfl, fun h => rfl⟩
theorem xf_X4_15 : XF RX4 15 3 1 (.int) false true := ⟨RX4, TX4, 2, tyX4, rfl, by decide, xT_m1 122 (by decide +kernel) rfl, iwX4, tyX4_ok, rfl, nmX4, rfl, fun h => rfl⟩
theorem xf_X6_73 : XF RX6 73 3 1 (.int) false false := ⟨RX4, TX4, 2, tyX4, rfl, by decide, xT_m1 123 (by decide +kernel) rfl, iwX4, tyX4_ok, rfl, nmX4, rfl, fun h => by cases h⟩
theorem xf_X0_12 : XF RX0 12 0 0 (.object "EveryTwentyMinutes$Hall") true true := ⟨RX0, TX0, 5, tyX0, rfl, by decide, xT_m1 137 (by decide +kernel) rfl, iwX0, tyX0_ok, rfl, nmX0, rfl, fun h => rfl⟩
theorem xf_X0_18 : XF RX0 18 0 1 (.array .int) true true := ⟨RX0, TX0, 5, tyX0, rfl, by decide, xT_m1 138 (by decide +kernel) rfl, iwX0, tyX0_ok, rfl, nmX0, rfl, fun h => rfl⟩
theorem xf_X0_22 : XF RX0 22 0 2 (.array .int) true true := ⟨RX0, TX0, 5, tyX0, rfl, by decide, xT_m1 139 (by decide +kernel) rfl, iwX0, tyX0_ok, rfl, nmX0, rfl, fun h => rfl⟩
theorem xf_X6_222 : XF RX6 222 0 2 (.array .int) true false := ⟨RX0, TX0, 5, tyX0, rfl, by decide, xT_m1 140 (by decide +kernel) rfl, iwX0, tyX0_ok, rfl, nmX0, rfl, fun h => by cases h⟩
theorem xf_X0_25 : XF RX0 25 0 3 (.int) false true := ⟨RX0, TX0, 5, tyX0, rfl, by decide, xT_m1 141 (by decide +kernel) rfl, iwX0, tyX0_ok, rfl, nmX0, rfl, fun h => rfl⟩
theorem xf_X6_221 : XF RX6 221 0 3 (.int) false false := ⟨RX0, TX0, 5, tyX0, rfl, by decide, xT_m1 142 (by decide +kernel) rfl, iwX0, tyX0_ok, rfl, nmX0, rfl, fun h => by cases h⟩
theorem xf_X0_29 : XF RX0 29 0 4 (.int) false true := ⟨RX0, TX0, 5, tyX0, rfl, by decide, xT_m1 143 (by decide +kernel) rfl, iwX0, tyX0_ok, rfl, nmX0, rfl, fun h => rfl⟩
theorem xf_X6_218 : XF RX6 218 0 4 (.int) false false := ⟨RX0, TX0, 5, tyX0, rfl, by decide, xT_m1 144 (by decide +kernel) rfl, iwX0, tyX0_ok, rfl, nmX0, rfl, fun h => by cases h⟩
theorem xf_X1_11 : XF RX1 11 1 0 (.array .int) true true := ⟨RX1, TX1, 3, tyX1, rfl, by decide, xT_m1 162 (by decide +kernel) rfl, iwX1, tyX1_ok, rfl, nmX1, rfl, fun h => rfl⟩
theorem xf_X6_231 : XF RX6 231 1 0 (.array .int) true false := ⟨RX1, TX1, 3, tyX1, rfl, by decide, xT_m1 163 (by decide +kernel) rfl, iwX1, tyX1_ok, rfl, nmX1, rfl, fun h => by cases h⟩
theorem xf_X1_17 : XF RX1 17 1 1 (.int) false true := ⟨RX1, TX1, 3, tyX1, rfl, by decide, xT_m1 164 (by decide +kernel) rfl, iwX1, tyX1_ok, rfl, nmX1, rfl, fun h => rfl⟩
theorem xf_X6_232 : XF RX6 232 1 1 (.int) false false := ⟨RX1, TX1, 3, tyX1, rfl, by decide, xT_m1 165 (by decide +kernel) rfl, iwX1, tyX1_ok, rfl, nmX1, rfl, fun h => by cases h⟩
theorem xf_X1_21 : XF RX1 21 1 2 (.int) false true := ⟨RX1, TX1, 3, tyX1, rfl, by decide, xT_m1 166 (by decide +kernel) rfl, iwX1, tyX1_ok, rfl, nmX1, rfl, fun h => rfl⟩
theorem xf_X6_235 : XF RX6 235 1 2 (.int) false false := ⟨RX1, TX1, 3, tyX1, rfl, by decide, xT_m1 167 (by decide +kernel) rfl, iwX1, tyX1_ok, rfl, nmX1, rfl, fun h => by cases h⟩
theorem xf_X6_10 : XF RX6 10 5 0 (.object "EveryTwentyMinutes$Hall") true true := ⟨RX6, TX6, 11, tyX6, rfl, by decide, xT_m1 175 (by decide +kernel) rfl, iwX6, tyX6_ok, rfl, nmX6, rfl, fun h => rfl⟩
theorem xf_X6_16 : XF RX6 16 5 1 (.object "EveryTwentyMinutes$Hall") true true := ⟨RX6, TX6, 11, tyX6, rfl, by decide, xT_m1 176 (by decide +kernel) rfl, iwX6, tyX6_ok, rfl, nmX6, rfl, fun h => rfl⟩
theorem xf_X6_19 : XF RX6 19 5 2 (.object "EveryTwentyMinutes$Hall") true true := ⟨RX6, TX6, 11, tyX6, rfl, by decide, xT_m1 177 (by decide +kernel) rfl, iwX6, tyX6_ok, rfl, nmX6, rfl, fun h => rfl⟩
theorem xf_X6_22 : XF RX6 22 5 3 (.boolean) false true := ⟨RX6, TX6, 11, tyX6, rfl, by decide, xT_m1 178 (by decide +kernel) rfl, iwX6, tyX6_ok, rfl, nmX6, rfl, fun h => rfl⟩
theorem xf_X6_29 : XF RX6 29 5 4 (.object "EveryTwentyMinutes$Past") true true := ⟨RX6, TX6, 11, tyX6, rfl, by decide, xT_m1 179 (by decide +kernel) rfl, iwX6, tyX6_ok, rfl, nmX6, rfl, fun h => rfl⟩
theorem xf_X6_36 : XF RX6 36 5 5 (.object "EveryTwentyMinutes$Letters") true true := ⟨RX6, TX6, 11, tyX6, rfl, by decide, xT_m1 180 (by decide +kernel) rfl, iwX6, tyX6_ok, rfl, nmX6, rfl, fun h => rfl⟩
theorem xf_X6_43 : XF RX6 43 5 6 (.object "EveryTwentyMinutes$BestOrder") true true := ⟨RX6, TX6, 11, tyX6, rfl, by decide, xT_m1 181 (by decide +kernel) rfl, iwX6, tyX6_ok, rfl, nmX6, rfl, fun h => rfl⟩
theorem xf_X6_50 : XF RX6 50 5 7 (.object "EveryTwentyMinutes$Fountain") true true := ⟨RX6, TX6, 11, tyX6, rfl, by decide, xT_m1 182 (by decide +kernel) rfl, iwX6, tyX6_ok, rfl, nmX6, rfl, fun h => rfl⟩
theorem xf_X6_54 : XF RX6 54 5 8 (.array .int) true true := ⟨RX6, TX6, 11, tyX6, rfl, by decide, xT_m1 183 (by decide +kernel) rfl, iwX6, tyX6_ok, rfl, nmX6, rfl, fun h => rfl⟩
theorem xf_X6_58 : XF RX6 58 5 9 (.int) false true := ⟨RX6, TX6, 11, tyX6, rfl, by decide, xT_m1 184 (by decide +kernel) rfl, iwX6, tyX6_ok, rfl, nmX6, rfl, fun h => rfl⟩
theorem xf_X6_62 : XF RX6 62 5 10 (.array .int) true true := ⟨RX6, TX6, 11, tyX6, rfl, by decide, xT_m1 185 (by decide +kernel) rfl, iwX6, tyX6_ok, rfl, nmX6, rfl, fun h => rfl⟩
theorem xf_X7_83 : XF RX7 83 6 0 (.int) false true := ⟨RX7, TX7, 39, tyX7, rfl, by decide, xT_m3 229 (by decide +kernel) rfl, iwX7, tyX7_ok, rfl, nmX7, rfl, fun h => rfl⟩
theorem xf_X7_7 : XF RX7 7 6 1 (.array .int) true true := ⟨RX7, TX7, 39, tyX7, rfl, by decide, xT_m3 230 (by decide +kernel) rfl, iwX7, tyX7_ok, rfl, nmX7, rfl, fun h => rfl⟩
theorem xf_X7_13 : XF RX7 13 6 2 (.array .int) true true := ⟨RX7, TX7, 39, tyX7, rfl, by decide, xT_m3 231 (by decide +kernel) rfl, iwX7, tyX7_ok, rfl, nmX7, rfl, fun h => rfl⟩
theorem xf_X7_16 : XF RX7 16 6 3 (.array .int) true true := ⟨RX7, TX7, 39, tyX7, rfl, by decide, xT_m3 232 (by decide +kernel) rfl, iwX7, tyX7_ok, rfl, nmX7, rfl, fun h => rfl⟩
theorem xf_X7_19 : XF RX7 19 6 4 (.array .int) true true := ⟨RX7, TX7, 39, tyX7, rfl, by decide, xT_m3 233 (by decide +kernel) rfl, iwX7, tyX7_ok, rfl, nmX7, rfl, fun h => rfl⟩
theorem xf_X7_22 : XF RX7 22 6 5 (.array .int) true true := ⟨RX7, TX7, 39, tyX7, rfl, by decide, xT_m3 234 (by decide +kernel) rfl, iwX7, tyX7_ok, rfl, nmX7, rfl, fun h => rfl⟩
theorem xf_X7_25 : XF RX7 25 6 6 (.array .int) true true := ⟨RX7, TX7, 39, tyX7, rfl, by decide, xT_m3 235 (by decide +kernel) rfl, iwX7, tyX7_ok, rfl, nmX7, rfl, fun h => rfl⟩
theorem xf_X7_28 : XF RX7 28 6 7 (.array .int) true true := ⟨RX7, TX7, 39, tyX7, rfl, by decide, xT_m3 236 (by decide +kernel) rfl, iwX7, tyX7_ok, rfl, nmX7, rfl, fun h => rfl⟩
theorem xf_X7_31 : XF RX7 31 6 8 (.array .int) true true := ⟨RX7, TX7, 39, tyX7, rfl, by decide, xT_m3 237 (by decide +kernel) rfl, iwX7, tyX7_ok, rfl, nmX7, rfl, fun h => rfl⟩
theorem xf_X7_100 : XF RX7 100 6 9 (.int) false true := ⟨RX7, TX7, 39, tyX7, rfl, by decide, xT_m3 238 (by decide +kernel) rfl, iwX7, tyX7_ok, rfl, nmX7, rfl, fun h => rfl⟩
theorem xf_X7_80 : XF RX7 80 6 10 (.int) false true := ⟨RX7, TX7, 39, tyX7, rfl, by decide, xT_m3 239 (by decide +kernel) rfl, iwX7, tyX7_ok, rfl, nmX7, rfl, fun h => rfl⟩
theorem xf_X7_34 : XF RX7 34 6 11 (.array .int) true true := ⟨RX7, TX7, 39, tyX7, rfl, by decide, xT_m4 0 (by decide +kernel) rfl, iwX7, tyX7_ok, rfl, nmX7, rfl, fun h => rfl⟩
theorem xf_X7_94 : XF RX7 94 6 12 (.int) false true := ⟨RX7, TX7, 39, tyX7, rfl, by decide, xT_m4 1 (by decide +kernel) rfl, iwX7, tyX7_ok, rfl, nmX7, rfl, fun h => rfl⟩
theorem xf_X7_114 : XF RX7 114 6 13 (.int) false true := ⟨RX7, TX7, 39, tyX7, rfl, by decide, xT_m4 2 (by decide +kernel) rfl, iwX7, tyX7_ok, rfl, nmX7, rfl, fun h => rfl⟩
theorem xf_X7_76 : XF RX7 76 6 14 (.int) false true := ⟨RX7, TX7, 39, tyX7, rfl, by decide, xT_m4 3 (by decide +kernel) rfl, iwX7, tyX7_ok, rfl, nmX7, rfl, fun h => rfl⟩
theorem xf_X7_37 : XF RX7 37 6 15 (.array .int) true true := ⟨RX7, TX7, 39, tyX7, rfl, by decide, xT_m4 4 (by decide +kernel) rfl, iwX7, tyX7_ok, rfl, nmX7, rfl, fun h => rfl⟩
theorem xf_X7_40 : XF RX7 40 6 16 (.array .int) true true := ⟨RX7, TX7, 39, tyX7, rfl, by decide, xT_m4 5 (by decide +kernel) rfl, iwX7, tyX7_ok, rfl, nmX7, rfl, fun h => rfl⟩
theorem xf_X7_141 : XF RX7 141 6 17 (.int) false true := ⟨RX7, TX7, 39, tyX7, rfl, by decide, xT_m4 6 (by decide +kernel) rfl, iwX7, tyX7_ok, rfl, nmX7, rfl, fun h => rfl⟩
theorem xf_X7_144 : XF RX7 144 6 18 (.int) false true := ⟨RX7, TX7, 39, tyX7, rfl, by decide, xT_m4 7 (by decide +kernel) rfl, iwX7, tyX7_ok, rfl, nmX7, rfl, fun h => rfl⟩
theorem xf_X7_147 : XF RX7 147 6 19 (.boolean) false true := ⟨RX7, TX7, 39, tyX7, rfl, by decide, xT_m4 8 (by decide +kernel) rfl, iwX7, tyX7_ok, rfl, nmX7, rfl, fun h => rfl⟩
theorem xf_X7_158 : XF RX7 158 6 20 (.int) false true := ⟨RX7, TX7, 39, tyX7, rfl, by decide, xT_m4 9 (by decide +kernel) rfl, iwX7, tyX7_ok, rfl, nmX7, rfl, fun h => rfl⟩
theorem xf_X7_43 : XF RX7 43 6 21 (.array .int) true true := ⟨RX7, TX7, 39, tyX7, rfl, by decide, xT_m4 10 (by decide +kernel) rfl, iwX7, tyX7_ok, rfl, nmX7, rfl, fun h => rfl⟩
theorem xf_X7_46 : XF RX7 46 6 22 (.array .int) true true := ⟨RX7, TX7, 39, tyX7, rfl, by decide, xT_m4 11 (by decide +kernel) rfl, iwX7, tyX7_ok, rfl, nmX7, rfl, fun h => rfl⟩
theorem xf_X7_49 : XF RX7 49 6 23 (.array .int) true true := ⟨RX7, TX7, 39, tyX7, rfl, by decide, xT_m4 12 (by decide +kernel) rfl, iwX7, tyX7_ok, rfl, nmX7, rfl, fun h => rfl⟩
theorem xf_X7_52 : XF RX7 52 6 24 (.array .int) true true := ⟨RX7, TX7, 39, tyX7, rfl, by decide, xT_m4 13 (by decide +kernel) rfl, iwX7, tyX7_ok, rfl, nmX7, rfl, fun h => rfl⟩
theorem xf_X7_55 : XF RX7 55 6 25 (.array .int) true true := ⟨RX7, TX7, 39, tyX7, rfl, by decide, xT_m4 14 (by decide +kernel) rfl, iwX7, tyX7_ok, rfl, nmX7, rfl, fun h => rfl⟩
theorem xf_X7_222 : XF RX7 222 6 26 (.boolean) false true := ⟨RX7, TX7, 39, tyX7, rfl, by decide, xT_m4 15 (by decide +kernel) rfl, iwX7, tyX7_ok, rfl, nmX7, rfl, fun h => rfl⟩
theorem xf_X7_212 : XF RX7 212 6 27 (.int) false true := ⟨RX7, TX7, 39, tyX7, rfl, by decide, xT_m4 16 (by decide +kernel) rfl, iwX7, tyX7_ok, rfl, nmX7, rfl, fun h => rfl⟩
theorem xf_X7_206 : XF RX7 206 6 28 (.boolean) false true := ⟨RX7, TX7, 39, tyX7, rfl, by decide, xT_m4 17 (by decide +kernel) rfl, iwX7, tyX7_ok, rfl, nmX7, rfl, fun h => rfl⟩
theorem xf_X7_209 : XF RX7 209 6 29 (.array .int) false true := ⟨RX7, TX7, 39, tyX7, rfl, by decide, xT_m4 18 (by decide +kernel) rfl, iwX7, tyX7_ok, rfl, nmX7, rfl, fun h => rfl⟩
theorem xf_X7_58 : XF RX7 58 6 30 (.array .int) true true := ⟨RX7, TX7, 39, tyX7, rfl, by decide, xT_m4 19 (by decide +kernel) rfl, iwX7, tyX7_ok, rfl, nmX7, rfl, fun h => rfl⟩
theorem xf_X7_61 : XF RX7 61 6 31 (.array .int) true true := ⟨RX7, TX7, 39, tyX7, rfl, by decide, xT_m4 20 (by decide +kernel) rfl, iwX7, tyX7_ok, rfl, nmX7, rfl, fun h => rfl⟩
theorem xf_X7_203 : XF RX7 203 6 32 (.int) false true := ⟨RX7, TX7, 39, tyX7, rfl, by decide, xT_m4 21 (by decide +kernel) rfl, iwX7, tyX7_ok, rfl, nmX7, rfl, fun h => rfl⟩
theorem xf_X7_64 : XF RX7 64 6 33 (.array .int) true true := ⟨RX7, TX7, 39, tyX7, rfl, by decide, xT_m4 22 (by decide +kernel) rfl, iwX7, tyX7_ok, rfl, nmX7, rfl, fun h => rfl⟩
theorem xf_X7_67 : XF RX7 67 6 34 (.array .int) true true := ⟨RX7, TX7, 39, tyX7, rfl, by decide, xT_m4 23 (by decide +kernel) rfl, iwX7, tyX7_ok, rfl, nmX7, rfl, fun h => rfl⟩
theorem xf_X7_70 : XF RX7 70 6 35 (.array .int) true true := ⟨RX7, TX7, 39, tyX7, rfl, by decide, xT_m4 24 (by decide +kernel) rfl, iwX7, tyX7_ok, rfl, nmX7, rfl, fun h => rfl⟩
theorem xf_X7_73 : XF RX7 73 6 36 (.array .int) true true := ⟨RX7, TX7, 39, tyX7, rfl, by decide, xT_m4 25 (by decide +kernel) rfl, iwX7, tyX7_ok, rfl, nmX7, rfl, fun h => rfl⟩
theorem xf_X7_300 : XF RX7 300 6 37 (.int) false true := ⟨RX7, TX7, 39, tyX7, rfl, by decide, xT_m4 26 (by decide +kernel) rfl, iwX7, tyX7_ok, rfl, nmX7, rfl, fun h => rfl⟩
theorem xf_X7_317 : XF RX7 317 6 38 (.int) false true := ⟨RX7, TX7, 39, tyX7, rfl, by decide, xT_m4 27 (by decide +kernel) rfl, iwX7, tyX7_ok, rfl, nmX7, rfl, fun h => rfl⟩
theorem xm_X6_init : Cond.instanceMethod yX6_init ∈ xT ∧ Cond.initialized yX6_init.cls ∈ xT ∧ Cond.code yX6_init cX6_init 1 none ∈ xT ∧ yX6_init.name = "<init>" ∧ (yX6_init.cls ≠ "java/lang/invoke/MethodHandle" ∧ yX6_init.cls ≠ "java/lang/invoke/VarHandle" ∧ (parseMethodDescriptor yX6_init.desc).map (fun d => d.parameters.length) = some 0) := ⟨xT_m1 15 (by decide +kernel) rfl, xT_m1 1 (by decide +kernel) rfl, xT_m1 16 (by decide +kernel) rfl, rfl, by decide +kernel⟩
theorem xc_L_9 : Cond.methodLink RL 9 yX6_init ∈ xT := xT_m1 14 (by decide +kernel) rfl
theorem xm_X5_init : Cond.instanceMethod yX5_init ∈ xT ∧ Cond.initialized yX5_init.cls ∈ xT ∧ Cond.code yX5_init cX5_init 2 none ∈ xT ∧ yX5_init.name = "<init>" ∧ (yX5_init.cls ≠ "java/lang/invoke/MethodHandle" ∧ yX5_init.cls ≠ "java/lang/invoke/VarHandle" ∧ (parseMethodDescriptor yX5_init.desc).map (fun d => d.parameters.length) = some 0) := ⟨xT_m1 98 (by decide +kernel) rfl, xT_m1 3 (by decide +kernel) rfl, xT_m1 99 (by decide +kernel) rfl, rfl, by decide +kernel⟩
theorem xc_X6_28 : Cond.methodLink RX6 28 yX5_init ∈ xT := xT_m1 97 (by decide +kernel) rfl
theorem xm_X6_feed : Cond.instanceMethod yX6_feed ∈ xT ∧ Cond.selects RX6 yX6_feed yX6_feed ∈ xT ∧ Cond.initialized RX6 ∈ xT ∧ Cond.code yX6_feed cX6_feed 2 (some .int) ∈ xT ∧ (yX6_feed.cls = RX6 ∧ yX6_feed.cls ≠ "java/lang/invoke/MethodHandle" ∧ yX6_feed.cls ≠ "java/lang/invoke/VarHandle" ∧ (parseMethodDescriptor yX6_feed.desc).map (fun d => d.parameters.length) = some 1) := ⟨xT_m1 210 (by decide +kernel) rfl, xT_m1 211 (by decide +kernel) rfl, xT_m1 1 (by decide +kernel) rfl, xT_m1 212 (by decide +kernel) rfl, by decide +kernel⟩
theorem xc_L_13 : XCV RL 13 RX6 yX6_feed cX6_feed 2 (some .int) 1 := ⟨xT_m1 209 (by decide +kernel) rfl, xm_X6_feed.1, xm_X6_feed.2.1, xm_X6_feed.2.2.1, xm_X6_feed.2.2.2.1, xm_X6_feed.2.2.2.2⟩
theorem xm_X6_refused : Cond.instanceMethod yX6_refused ∈ xT ∧ Cond.selects RX6 yX6_refused yX6_refused ∈ xT ∧ Cond.initialized RX6 ∈ xT ∧ Cond.code yX6_refused cX6_refused 3 (some .int) ∈ xT ∧ (yX6_refused.cls = RX6 ∧ yX6_refused.cls ≠ "java/lang/invoke/MethodHandle" ∧ yX6_refused.cls ≠ "java/lang/invoke/VarHandle" ∧ (parseMethodDescriptor yX6_refused.desc).map (fun d => d.parameters.length) = some 1) := ⟨xT_m1 215 (by decide +kernel) rfl, xT_m0 0 (by decide +kernel) rfl, xT_m1 1 (by decide +kernel) rfl, xT_m1 216 (by decide +kernel) rfl, by decide +kernel⟩
theorem xc_X6_65 : XCV RX6 65 RX6 yX6_refused cX6_refused 3 (some .int) 1 := ⟨xT_m1 213 (by decide +kernel) rfl, xm_X6_refused.1, xm_X6_refused.2.1, xm_X6_refused.2.2.1, xm_X6_refused.2.2.2.1, xm_X6_refused.2.2.2.2⟩
theorem xm_X4_take : Cond.instanceMethod yX4_take ∈ xT ∧ Cond.selects RX4 yX4_take yX4_take ∈ xT ∧ Cond.initialized RX4 ∈ xT ∧ Cond.code yX4_take cX4_take 2 (some .boolean) ∈ xT ∧ (yX4_take.cls = RX4 ∧ yX4_take.cls ≠ "java/lang/invoke/MethodHandle" ∧ yX4_take.cls ≠ "java/lang/invoke/VarHandle" ∧ (parseMethodDescriptor yX4_take.desc).map (fun d => d.parameters.length) = some 1) := ⟨xT_m1 218 (by decide +kernel) rfl, xT_m1 219 (by decide +kernel) rfl, xT_m1 4 (by decide +kernel) rfl, xT_m1 220 (by decide +kernel) rfl, by decide +kernel⟩
theorem xc_X6_69 : XCV RX6 69 RX4 yX4_take cX4_take 2 (some .boolean) 1 := ⟨xT_m1 217 (by decide +kernel) rfl, xm_X4_take.1, xm_X4_take.2.1, xm_X4_take.2.2.1, xm_X4_take.2.2.2.1, xm_X4_take.2.2.2.2⟩
theorem xm_X6_hall : Cond.instanceMethod yX6_hall ∈ xT ∧ Cond.selects RX6 yX6_hall yX6_hall ∈ xT ∧ Cond.initialized RX6 ∈ xT ∧ Cond.code yX6_hall cX6_hall 4 (some .int) ∈ xT ∧ (yX6_hall.cls = RX6 ∧ yX6_hall.cls ≠ "java/lang/invoke/MethodHandle" ∧ yX6_hall.cls ≠ "java/lang/invoke/VarHandle" ∧ (parseMethodDescriptor yX6_hall.desc).map (fun d => d.parameters.length) = some 0) := ⟨xT_m1 222 (by decide +kernel) rfl, xT_m1 223 (by decide +kernel) rfl, xT_m1 1 (by decide +kernel) rfl, xT_m1 224 (by decide +kernel) rfl, by decide +kernel⟩
theorem xc_L_18 : XCV RL 18 RX6 yX6_hall cX6_hall 4 (some .int) 0 := ⟨xT_m1 221 (by decide +kernel) rfl, xm_X6_hall.1, xm_X6_hall.2.1, xm_X6_hall.2.2.1, xm_X6_hall.2.2.2.1, xm_X6_hall.2.2.2.2⟩
theorem xm_X4_faultyPlace : Cond.instanceMethod yX4_faultyPlace ∈ xT ∧ Cond.selects RX4 yX4_faultyPlace yX4_faultyPlace ∈ xT ∧ Cond.initialized RX4 ∈ xT ∧ Cond.code yX4_faultyPlace cX4_faultyPlace 4 (some .int) ∈ xT ∧ (yX4_faultyPlace.cls = RX4 ∧ yX4_faultyPlace.cls ≠ "java/lang/invoke/MethodHandle" ∧ yX4_faultyPlace.cls ≠ "java/lang/invoke/VarHandle" ∧ (parseMethodDescriptor yX4_faultyPlace.desc).map (fun d => d.parameters.length) = some 0) := ⟨xT_m1 226 (by decide +kernel) rfl, xT_m1 227 (by decide +kernel) rfl, xT_m1 4 (by decide +kernel) rfl, xT_m1 228 (by decide +kernel) rfl, by decide +kernel⟩
theorem xc_X6_76 : XCV RX6 76 RX4 yX4_faultyPlace cX4_faultyPlace 4 (some .int) 0 := ⟨xT_m1 225 (by decide +kernel) rfl, xm_X4_faultyPlace.1, xm_X4_faultyPlace.2.1, xm_X4_faultyPlace.2.2.1, xm_X4_faultyPlace.2.2.2.1, xm_X4_faultyPlace.2.2.2.2⟩
theorem xm_X4_digitsBehind : Cond.static yX4_digitsBehind ∈ xT ∧ Cond.initialized yX4_digitsBehind.cls ∈ xT ∧ Cond.code yX4_digitsBehind cX4_digitsBehind 1 (some .int) ∈ xT ∧ (yX4_digitsBehind.cls ≠ "java/lang/invoke/MethodHandle" ∧ yX4_digitsBehind.cls ≠ "java/lang/invoke/VarHandle" ∧ (parseMethodDescriptor yX4_digitsBehind.desc).map (fun d => d.parameters.length) = some 1) := ⟨xT_m1 230 (by decide +kernel) rfl, xT_m1 4 (by decide +kernel) rfl, xT_m1 231 (by decide +kernel) rfl, by decide +kernel⟩
theorem xc_X4_19 : XCS RX4 19 yX4_digitsBehind cX4_digitsBehind 1 (some .int) 1 := ⟨xT_m1 229 (by decide +kernel) rfl, xm_X4_digitsBehind.1, xm_X4_digitsBehind.2.1, xm_X4_digitsBehind.2.2.1, xm_X4_digitsBehind.2.2.2⟩
theorem xm_X4_isDigit : Cond.instanceMethod yX4_isDigit ∈ xT ∧ Cond.selects RX4 yX4_isDigit yX4_isDigit ∈ xT ∧ Cond.initialized RX4 ∈ xT ∧ Cond.code yX4_isDigit cX4_isDigit 2 (some .boolean) ∈ xT ∧ (yX4_isDigit.cls = RX4 ∧ yX4_isDigit.cls ≠ "java/lang/invoke/MethodHandle" ∧ yX4_isDigit.cls ≠ "java/lang/invoke/VarHandle" ∧ (parseMethodDescriptor yX4_isDigit.desc).map (fun d => d.parameters.length) = some 1) := ⟨xT_m1 234 (by decide +kernel) rfl, xT_m0 1 (by decide +kernel) rfl, xT_m1 4 (by decide +kernel) rfl, xT_m1 235 (by decide +kernel) rfl, by decide +kernel⟩
theorem xc_X4_23 : XCV RX4 23 RX4 yX4_isDigit cX4_isDigit 2 (some .boolean) 1 := ⟨xT_m1 232 (by decide +kernel) rfl, xm_X4_isDigit.1, xm_X4_isDigit.2.1, xm_X4_isDigit.2.2.1, xm_X4_isDigit.2.2.2.1, xm_X4_isDigit.2.2.2.2⟩
theorem xm_X6_asNow : Cond.instanceMethod yX6_asNow ∈ xT ∧ Cond.selects RX6 yX6_asNow yX6_asNow ∈ xT ∧ Cond.initialized RX6 ∈ xT ∧ Cond.code yX6_asNow cX6_asNow 1 (some (.object "EveryTwentyMinutes$Hall")) ∈ xT ∧ (yX6_asNow.cls = RX6 ∧ yX6_asNow.cls ≠ "java/lang/invoke/MethodHandle" ∧ yX6_asNow.cls ≠ "java/lang/invoke/VarHandle" ∧ (parseMethodDescriptor yX6_asNow.desc).map (fun d => d.parameters.length) = some 0) := ⟨xT_m1 238 (by decide +kernel) rfl, xT_m0 2 (by decide +kernel) rfl, xT_m1 1 (by decide +kernel) rfl, xT_m1 239 (by decide +kernel) rfl, by decide +kernel⟩
theorem xc_X6_80 : XCV RX6 80 RX6 yX6_asNow cX6_asNow 1 (some (.object "EveryTwentyMinutes$Hall")) 0 := ⟨xT_m1 236 (by decide +kernel) rfl, xm_X6_asNow.1, xm_X6_asNow.2.1, xm_X6_asNow.2.2.1, xm_X6_asNow.2.2.2.1, xm_X6_asNow.2.2.2.2⟩
theorem xm_X2_become : Cond.instanceMethod yX2_become ∈ xT ∧ Cond.selects RX2 yX2_become yX2_become ∈ xT ∧ Cond.initialized RX2 ∈ xT ∧ Cond.code yX2_become cX2_become 2 none ∈ xT ∧ (yX2_become.cls = RX2 ∧ yX2_become.cls ≠ "java/lang/invoke/MethodHandle" ∧ yX2_become.cls ≠ "java/lang/invoke/VarHandle" ∧ (parseMethodDescriptor yX2_become.desc).map (fun d => d.parameters.length) = some 1) := ⟨xT_m2 1 (by decide +kernel) rfl, xT_m2 2 (by decide +kernel) rfl, xT_m1 2 (by decide +kernel) rfl, xT_m2 3 (by decide +kernel) rfl, by decide +kernel⟩
theorem xc_X6_88 : XCV RX6 88 RX2 yX2_become cX2_become 2 none 1 := ⟨xT_m2 0 (by decide +kernel) rfl, xm_X2_become.1, xm_X2_become.2.1, xm_X2_become.2.2.1, xm_X2_become.2.2.2.1, xm_X2_become.2.2.2.2⟩
theorem xp_X2_55 : XCp RX2 55 := ⟨xT_m2 4 (by decide +kernel) rfl, xT_m2 6 (by decide +kernel) rfl, xT_m2 5 (by decide +kernel) rfl, xT_m1 8 (by decide +kernel) rfl⟩
theorem xm_X4_tellTo : Cond.instanceMethod yX4_tellTo ∈ xT ∧ Cond.selects RX4 yX4_tellTo yX4_tellTo ∈ xT ∧ Cond.initialized RX4 ∈ xT ∧ Cond.code yX4_tellTo cX4_tellTo 4 (some .int) ∈ xT ∧ (yX4_tellTo.cls = RX4 ∧ yX4_tellTo.cls ≠ "java/lang/invoke/MethodHandle" ∧ yX4_tellTo.cls ≠ "java/lang/invoke/VarHandle" ∧ (parseMethodDescriptor yX4_tellTo.desc).map (fun d => d.parameters.length) = some 1) := ⟨xT_m2 8 (by decide +kernel) rfl, xT_m2 9 (by decide +kernel) rfl, xT_m1 4 (by decide +kernel) rfl, xT_m2 10 (by decide +kernel) rfl, by decide +kernel⟩
theorem xc_X6_84 : XCV RX6 84 RX4 yX4_tellTo cX4_tellTo 4 (some .int) 1 := ⟨xT_m2 7 (by decide +kernel) rfl, xm_X4_tellTo.1, xm_X4_tellTo.2.1, xm_X4_tellTo.2.2.1, xm_X4_tellTo.2.2.2.1, xm_X4_tellTo.2.2.2.2⟩
theorem xm_X4_obeyed : Cond.instanceMethod yX4_obeyed ∈ xT ∧ Cond.selects RX4 yX4_obeyed yX4_obeyed ∈ xT ∧ Cond.initialized RX4 ∈ xT ∧ Cond.code yX4_obeyed cX4_obeyed 3 (some .boolean) ∈ xT ∧ (yX4_obeyed.cls = RX4 ∧ yX4_obeyed.cls ≠ "java/lang/invoke/MethodHandle" ∧ yX4_obeyed.cls ≠ "java/lang/invoke/VarHandle" ∧ (parseMethodDescriptor yX4_obeyed.desc).map (fun d => d.parameters.length) = some 2) := ⟨xT_m2 13 (by decide +kernel) rfl, xT_m0 3 (by decide +kernel) rfl, xT_m1 4 (by decide +kernel) rfl, xT_m2 14 (by decide +kernel) rfl, by decide +kernel⟩
theorem xc_X4_27 : XCV RX4 27 RX4 yX4_obeyed cX4_obeyed 3 (some .boolean) 2 := ⟨xT_m2 11 (by decide +kernel) rfl, xm_X4_obeyed.1, xm_X4_obeyed.2.1, xm_X4_obeyed.2.2.1, xm_X4_obeyed.2.2.2.1, xm_X4_obeyed.2.2.2.2⟩
theorem xm_X4_coupleComes : Cond.instanceMethod yX4_coupleComes ∈ xT ∧ Cond.selects RX4 yX4_coupleComes yX4_coupleComes ∈ xT ∧ Cond.initialized RX4 ∈ xT ∧ Cond.code yX4_coupleComes cX4_coupleComes 5 (some .boolean) ∈ xT ∧ (yX4_coupleComes.cls = RX4 ∧ yX4_coupleComes.cls ≠ "java/lang/invoke/MethodHandle" ∧ yX4_coupleComes.cls ≠ "java/lang/invoke/VarHandle" ∧ (parseMethodDescriptor yX4_coupleComes.desc).map (fun d => d.parameters.length) = some 2) := ⟨xT_m2 17 (by decide +kernel) rfl, xT_m0 4 (by decide +kernel) rfl, xT_m1 4 (by decide +kernel) rfl, xT_m2 18 (by decide +kernel) rfl, by decide +kernel⟩
theorem xc_X4_31 : XCV RX4 31 RX4 yX4_coupleComes cX4_coupleComes 5 (some .boolean) 2 := ⟨xT_m2 15 (by decide +kernel) rfl, xm_X4_coupleComes.1, xm_X4_coupleComes.2.1, xm_X4_coupleComes.2.2.1, xm_X4_coupleComes.2.2.2.1, xm_X4_coupleComes.2.2.2.2⟩
theorem xm_X4_number : Cond.instanceMethod yX4_number ∈ xT ∧ Cond.selects RX4 yX4_number yX4_number ∈ xT ∧ Cond.initialized RX4 ∈ xT ∧ Cond.code yX4_number cX4_number 5 (some .int) ∈ xT ∧ (yX4_number.cls = RX4 ∧ yX4_number.cls ≠ "java/lang/invoke/MethodHandle" ∧ yX4_number.cls ≠ "java/lang/invoke/VarHandle" ∧ (parseMethodDescriptor yX4_number.desc).map (fun d => d.parameters.length) = some 2) := ⟨xT_m2 21 (by decide +kernel) rfl, xT_m0 5 (by decide +kernel) rfl, xT_m1 4 (by decide +kernel) rfl, xT_m2 22 (by decide +kernel) rfl, by decide +kernel⟩
theorem xc_X4_34 : XCV RX4 34 RX4 yX4_number cX4_number 5 (some .int) 2 := ⟨xT_m2 19 (by decide +kernel) rfl, xm_X4_number.1, xm_X4_number.2.1, xm_X4_number.2.2.1, xm_X4_number.2.2.2.1, xm_X4_number.2.2.2.2⟩
theorem xm_X3_isOne : Cond.static yX3_isOne ∈ xT ∧ Cond.initialized yX3_isOne.cls ∈ xT ∧ Cond.code yX3_isOne cX3_isOne 1 (some .boolean) ∈ xT ∧ (yX3_isOne.cls ≠ "java/lang/invoke/MethodHandle" ∧ yX3_isOne.cls ≠ "java/lang/invoke/VarHandle" ∧ (parseMethodDescriptor yX3_isOne.desc).map (fun d => d.parameters.length) = some 1) := ⟨xT_m2 24 (by decide +kernel) rfl, xT_m1 9 (by decide +kernel) rfl, xT_m2 25 (by decide +kernel) rfl, by decide +kernel⟩
theorem xc_X4_55 : XCS RX4 55 yX3_isOne cX3_isOne 1 (some .boolean) 1 := ⟨xT_m2 23 (by decide +kernel) rfl, xm_X3_isOne.1, xm_X3_isOne.2.1, xm_X3_isOne.2.2.1, xm_X3_isOne.2.2.2⟩
theorem xm_X2_isFull : Cond.instanceMethod yX2_isFull ∈ xT ∧ Cond.selects RX2 yX2_isFull yX2_isFull ∈ xT ∧ Cond.initialized RX2 ∈ xT ∧ Cond.code yX2_isFull cX2_isFull 1 (some .boolean) ∈ xT ∧ (yX2_isFull.cls = RX2 ∧ yX2_isFull.cls ≠ "java/lang/invoke/MethodHandle" ∧ yX2_isFull.cls ≠ "java/lang/invoke/VarHandle" ∧ (parseMethodDescriptor yX2_isFull.desc).map (fun d => d.parameters.length) = some 0) := ⟨xT_m2 27 (by decide +kernel) rfl, xT_m2 28 (by decide +kernel) rfl, xT_m1 2 (by decide +kernel) rfl, xT_m2 29 (by decide +kernel) rfl, by decide +kernel⟩
theorem xc_X4_60 : XCV RX4 60 RX2 yX2_isFull cX2_isFull 1 (some .boolean) 0 := ⟨xT_m2 26 (by decide +kernel) rfl, xm_X2_isFull.1, xm_X2_isFull.2.1, xm_X2_isFull.2.2.1, xm_X2_isFull.2.2.2.1, xm_X2_isFull.2.2.2.2⟩
theorem xm_X2_add : Cond.instanceMethod yX2_add ∈ xT ∧ Cond.selects RX2 yX2_add yX2_add ∈ xT ∧ Cond.initialized RX2 ∈ xT ∧ Cond.code yX2_add cX2_add 4 none ∈ xT ∧ (yX2_add.cls = RX2 ∧ yX2_add.cls ≠ "java/lang/invoke/MethodHandle" ∧ yX2_add.cls ≠ "java/lang/invoke/VarHandle" ∧ (parseMethodDescriptor yX2_add.desc).map (fun d => d.parameters.length) = some 3) := ⟨xT_m2 31 (by decide +kernel) rfl, xT_m2 32 (by decide +kernel) rfl, xT_m1 2 (by decide +kernel) rfl, xT_m2 33 (by decide +kernel) rfl, by decide +kernel⟩
theorem xc_X4_64 : XCV RX4 64 RX2 yX2_add cX2_add 4 none 3 := ⟨xT_m2 30 (by decide +kernel) rfl, xm_X2_add.1, xm_X2_add.2.1, xm_X2_add.2.2.1, xm_X2_add.2.2.2.1, xm_X2_add.2.2.2.2⟩
theorem xc_X2_74 : XCV RX2 74 RX2 yX2_isFull cX2_isFull 1 (some .boolean) 0 := ⟨xT_m2 34 (by decide +kernel) rfl, xm_X2_isFull.1, xm_X2_isFull.2.1, xm_X2_isFull.2.2.1, xm_X2_isFull.2.2.2.1, xm_X2_isFull.2.2.2.2⟩
theorem xm_X4_roomsOpened : Cond.static yX4_roomsOpened ∈ xT ∧ Cond.initialized yX4_roomsOpened.cls ∈ xT ∧ Cond.code yX4_roomsOpened cX4_roomsOpened 2 (some .boolean) ∈ xT ∧ (yX4_roomsOpened.cls ≠ "java/lang/invoke/MethodHandle" ∧ yX4_roomsOpened.cls ≠ "java/lang/invoke/VarHandle" ∧ (parseMethodDescriptor yX4_roomsOpened.desc).map (fun d => d.parameters.length) = some 2) := ⟨xT_m2 36 (by decide +kernel) rfl, xT_m1 4 (by decide +kernel) rfl, xT_m2 37 (by decide +kernel) rfl, by decide +kernel⟩
theorem xc_X4_43 : XCS RX4 43 yX4_roomsOpened cX4_roomsOpened 2 (some .boolean) 2 := ⟨xT_m2 35 (by decide +kernel) rfl, xm_X4_roomsOpened.1, xm_X4_roomsOpened.2.1, xm_X4_roomsOpened.2.2.1, xm_X4_roomsOpened.2.2.2⟩
theorem xm_X2_openRooms : Cond.instanceMethod yX2_openRooms ∈ xT ∧ Cond.selects RX2 yX2_openRooms yX2_openRooms ∈ xT ∧ Cond.initialized RX2 ∈ xT ∧ Cond.code yX2_openRooms cX2_openRooms 2 none ∈ xT ∧ (yX2_openRooms.cls = RX2 ∧ yX2_openRooms.cls ≠ "java/lang/invoke/MethodHandle" ∧ yX2_openRooms.cls ≠ "java/lang/invoke/VarHandle" ∧ (parseMethodDescriptor yX2_openRooms.desc).map (fun d => d.parameters.length) = some 1) := ⟨xT_m2 39 (by decide +kernel) rfl, xT_m2 40 (by decide +kernel) rfl, xT_m1 2 (by decide +kernel) rfl, xT_m2 41 (by decide +kernel) rfl, by decide +kernel⟩
theorem xc_X4_68 : XCV RX4 68 RX2 yX2_openRooms cX2_openRooms 2 none 1 := ⟨xT_m2 38 (by decide +kernel) rfl, xm_X2_openRooms.1, xm_X2_openRooms.2.1, xm_X2_openRooms.2.2.1, xm_X2_openRooms.2.2.2.1, xm_X2_openRooms.2.2.2.2⟩
theorem xm_X4_putFirst : Cond.static yX4_putFirst ∈ xT ∧ Cond.initialized yX4_putFirst.cls ∈ xT ∧ Cond.code yX4_putFirst cX4_putFirst 2 (some .boolean) ∈ xT ∧ (yX4_putFirst.cls ≠ "java/lang/invoke/MethodHandle" ∧ yX4_putFirst.cls ≠ "java/lang/invoke/VarHandle" ∧ (parseMethodDescriptor yX4_putFirst.desc).map (fun d => d.parameters.length) = some 2) := ⟨xT_m2 43 (by decide +kernel) rfl, xT_m1 4 (by decide +kernel) rfl, xT_m2 44 (by decide +kernel) rfl, by decide +kernel⟩
theorem xc_X4_46 : XCS RX4 46 yX4_putFirst cX4_putFirst 2 (some .boolean) 2 := ⟨xT_m2 42 (by decide +kernel) rfl, xm_X4_putFirst.1, xm_X4_putFirst.2.1, xm_X4_putFirst.2.2.1, xm_X4_putFirst.2.2.2⟩
theorem xm_X2_has : Cond.instanceMethod yX2_has ∈ xT ∧ Cond.selects RX2 yX2_has yX2_has ∈ xT ∧ Cond.initialized RX2 ∈ xT ∧ Cond.code yX2_has cX2_has 2 (some .boolean) ∈ xT ∧ (yX2_has.cls = RX2 ∧ yX2_has.cls ≠ "java/lang/invoke/MethodHandle" ∧ yX2_has.cls ≠ "java/lang/invoke/VarHandle" ∧ (parseMethodDescriptor yX2_has.desc).map (fun d => d.parameters.length) = some 1) := ⟨xT_m2 46 (by decide +kernel) rfl, xT_m2 47 (by decide +kernel) rfl, xT_m1 2 (by decide +kernel) rfl, xT_m2 48 (by decide +kernel) rfl, by decide +kernel⟩
theorem xc_X4_72 : XCV RX4 72 RX2 yX2_has cX2_has 2 (some .boolean) 1 := ⟨xT_m2 45 (by decide +kernel) rfl, xm_X2_has.1, xm_X2_has.2.1, xm_X2_has.2.2.1, xm_X2_has.2.2.2.1, xm_X2_has.2.2.2.2⟩
theorem xm_X2_isWed : Cond.instanceMethod yX2_isWed ∈ xT ∧ Cond.selects RX2 yX2_isWed yX2_isWed ∈ xT ∧ Cond.initialized RX2 ∈ xT ∧ Cond.code yX2_isWed cX2_isWed 2 (some .boolean) ∈ xT ∧ (yX2_isWed.cls = RX2 ∧ yX2_isWed.cls ≠ "java/lang/invoke/MethodHandle" ∧ yX2_isWed.cls ≠ "java/lang/invoke/VarHandle" ∧ (parseMethodDescriptor yX2_isWed.desc).map (fun d => d.parameters.length) = some 1) := ⟨xT_m2 50 (by decide +kernel) rfl, xT_m2 51 (by decide +kernel) rfl, xT_m1 2 (by decide +kernel) rfl, xT_m2 52 (by decide +kernel) rfl, by decide +kernel⟩
theorem xc_X4_75 : XCV RX4 75 RX2 yX2_isWed cX2_isWed 2 (some .boolean) 1 := ⟨xT_m2 49 (by decide +kernel) rfl, xm_X2_isWed.1, xm_X2_isWed.2.1, xm_X2_isWed.2.2.1, xm_X2_isWed.2.2.2.1, xm_X2_isWed.2.2.2.2⟩
theorem xm_X2_putFirst : Cond.instanceMethod yX2_putFirst ∈ xT ∧ Cond.selects RX2 yX2_putFirst yX2_putFirst ∈ xT ∧ Cond.initialized RX2 ∈ xT ∧ Cond.code yX2_putFirst cX2_putFirst 4 none ∈ xT ∧ (yX2_putFirst.cls = RX2 ∧ yX2_putFirst.cls ≠ "java/lang/invoke/MethodHandle" ∧ yX2_putFirst.cls ≠ "java/lang/invoke/VarHandle" ∧ (parseMethodDescriptor yX2_putFirst.desc).map (fun d => d.parameters.length) = some 1) := ⟨xT_m2 54 (by decide +kernel) rfl, xT_m2 55 (by decide +kernel) rfl, xT_m1 2 (by decide +kernel) rfl, xT_m2 56 (by decide +kernel) rfl, by decide +kernel⟩
theorem xc_X4_78 : XCV RX4 78 RX2 yX2_putFirst cX2_putFirst 4 none 1 := ⟨xT_m2 53 (by decide +kernel) rfl, xm_X2_putFirst.1, xm_X2_putFirst.2.1, xm_X2_putFirst.2.2.1, xm_X2_putFirst.2.2.2.1, xm_X2_putFirst.2.2.2.2⟩
theorem xm_X2_placeOf : Cond.instanceMethod yX2_placeOf ∈ xT ∧ Cond.selects RX2 yX2_placeOf yX2_placeOf ∈ xT ∧ Cond.initialized RX2 ∈ xT ∧ Cond.code yX2_placeOf cX2_placeOf 3 (some .int) ∈ xT ∧ (yX2_placeOf.cls = RX2 ∧ yX2_placeOf.cls ≠ "java/lang/invoke/MethodHandle" ∧ yX2_placeOf.cls ≠ "java/lang/invoke/VarHandle" ∧ (parseMethodDescriptor yX2_placeOf.desc).map (fun d => d.parameters.length) = some 1) := ⟨xT_m2 58 (by decide +kernel) rfl, xT_m2 59 (by decide +kernel) rfl, xT_m1 2 (by decide +kernel) rfl, xT_m2 60 (by decide +kernel) rfl, by decide +kernel⟩
theorem xc_X2_78 : XCV RX2 78 RX2 yX2_placeOf cX2_placeOf 3 (some .int) 1 := ⟨xT_m2 57 (by decide +kernel) rfl, xm_X2_placeOf.1, xm_X2_placeOf.2.1, xm_X2_placeOf.2.2.1, xm_X2_placeOf.2.2.2.1, xm_X2_placeOf.2.2.2.2⟩
theorem xm_X4_someWed : Cond.static yX4_someWed ∈ xT ∧ Cond.initialized yX4_someWed.cls ∈ xT ∧ Cond.code yX4_someWed cX4_someWed 2 (some .boolean) ∈ xT ∧ (yX4_someWed.cls ≠ "java/lang/invoke/MethodHandle" ∧ yX4_someWed.cls ≠ "java/lang/invoke/VarHandle" ∧ (parseMethodDescriptor yX4_someWed.desc).map (fun d => d.parameters.length) = some 2) := ⟨xT_m2 62 (by decide +kernel) rfl, xT_m1 4 (by decide +kernel) rfl, xT_m2 63 (by decide +kernel) rfl, by decide +kernel⟩
theorem xc_X4_49 : XCS RX4 49 yX4_someWed cX4_someWed 2 (some .boolean) 2 := ⟨xT_m2 61 (by decide +kernel) rfl, xm_X4_someWed.1, xm_X4_someWed.2.1, xm_X4_someWed.2.2.1, xm_X4_someWed.2.2.2⟩
theorem xm_X2_wedSome : Cond.instanceMethod yX2_wedSome ∈ xT ∧ Cond.selects RX2 yX2_wedSome yX2_wedSome ∈ xT ∧ Cond.initialized RX2 ∈ xT ∧ Cond.code yX2_wedSome cX2_wedSome 4 none ∈ xT ∧ (yX2_wedSome.cls = RX2 ∧ yX2_wedSome.cls ≠ "java/lang/invoke/MethodHandle" ∧ yX2_wedSome.cls ≠ "java/lang/invoke/VarHandle" ∧ (parseMethodDescriptor yX2_wedSome.desc).map (fun d => d.parameters.length) = some 1) := ⟨xT_m2 65 (by decide +kernel) rfl, xT_m2 66 (by decide +kernel) rfl, xT_m1 2 (by decide +kernel) rfl, xT_m2 67 (by decide +kernel) rfl, by decide +kernel⟩
theorem xc_X4_83 : XCV RX4 83 RX2 yX2_wedSome cX2_wedSome 4 none 1 := ⟨xT_m2 64 (by decide +kernel) rfl, xm_X2_wedSome.1, xm_X2_wedSome.2.1, xm_X2_wedSome.2.2.1, xm_X2_wedSome.2.2.2.1, xm_X2_wedSome.2.2.2.2⟩
theorem xp_X2_82 : XMa RX2 82 Lib.Math.min.name Lib.Math.min.code 2 (some .int) := ⟨xT_m2 68 (by decide +kernel) rfl, xT_m2 69 (by decide +kernel) rfl, xT_m1 10 (by decide +kernel) rfl, xT_m2 70 (by decide +kernel) rfl⟩
theorem xm_X2_wedFirst : Cond.instanceMethod yX2_wedFirst ∈ xT ∧ Cond.selects RX2 yX2_wedFirst yX2_wedFirst ∈ xT ∧ Cond.initialized RX2 ∈ xT ∧ Cond.code yX2_wedFirst cX2_wedFirst 4 none ∈ xT ∧ (yX2_wedFirst.cls = RX2 ∧ yX2_wedFirst.cls ≠ "java/lang/invoke/MethodHandle" ∧ yX2_wedFirst.cls ≠ "java/lang/invoke/VarHandle" ∧ (parseMethodDescriptor yX2_wedFirst.desc).map (fun d => d.parameters.length) = some 1) := ⟨xT_m2 72 (by decide +kernel) rfl, xT_m2 73 (by decide +kernel) rfl, xT_m1 2 (by decide +kernel) rfl, xT_m2 74 (by decide +kernel) rfl, by decide +kernel⟩
theorem xc_X2_91 : XCV RX2 91 RX2 yX2_wedFirst cX2_wedFirst 4 none 1 := ⟨xT_m2 71 (by decide +kernel) rfl, xm_X2_wedFirst.1, xm_X2_wedFirst.2.1, xm_X2_wedFirst.2.2.1, xm_X2_wedFirst.2.2.2.1, xm_X2_wedFirst.2.2.2.2⟩
theorem xm_X2_hold : Cond.instanceMethod yX2_hold ∈ xT ∧ Cond.selects RX2 yX2_hold yX2_hold ∈ xT ∧ Cond.initialized RX2 ∈ xT ∧ Cond.code yX2_hold cX2_hold 6 none ∈ xT ∧ (yX2_hold.cls = RX2 ∧ yX2_hold.cls ≠ "java/lang/invoke/MethodHandle" ∧ yX2_hold.cls ≠ "java/lang/invoke/VarHandle" ∧ (parseMethodDescriptor yX2_hold.desc).map (fun d => d.parameters.length) = some 2) := ⟨xT_m2 76 (by decide +kernel) rfl, xT_m2 77 (by decide +kernel) rfl, xT_m1 2 (by decide +kernel) rfl, xT_m2 78 (by decide +kernel) rfl, by decide +kernel⟩
theorem xc_X2_94 : XCV RX2 94 RX2 yX2_hold cX2_hold 6 none 2 := ⟨xT_m2 75 (by decide +kernel) rfl, xm_X2_hold.1, xm_X2_hold.2.1, xm_X2_hold.2.2.1, xm_X2_hold.2.2.2.1, xm_X2_hold.2.2.2.2⟩
theorem xm_X2_readyOf : Cond.instanceMethod yX2_readyOf ∈ xT ∧ Cond.selects RX2 yX2_readyOf yX2_readyOf ∈ xT ∧ Cond.initialized RX2 ∈ xT ∧ Cond.code yX2_readyOf cX2_readyOf 2 (some .int) ∈ xT ∧ (yX2_readyOf.cls = RX2 ∧ yX2_readyOf.cls ≠ "java/lang/invoke/MethodHandle" ∧ yX2_readyOf.cls ≠ "java/lang/invoke/VarHandle" ∧ (parseMethodDescriptor yX2_readyOf.desc).map (fun d => d.parameters.length) = some 1) := ⟨xT_m2 80 (by decide +kernel) rfl, xT_m2 81 (by decide +kernel) rfl, xT_m1 2 (by decide +kernel) rfl, xT_m2 82 (by decide +kernel) rfl, by decide +kernel⟩
theorem xc_X2_98 : XCV RX2 98 RX2 yX2_readyOf cX2_readyOf 2 (some .int) 1 := ⟨xT_m2 79 (by decide +kernel) rfl, xm_X2_readyOf.1, xm_X2_readyOf.2.1, xm_X2_readyOf.2.2.1, xm_X2_readyOf.2.2.2.1, xm_X2_readyOf.2.2.2.2⟩
theorem xm_X3_ready : Cond.static yX3_ready ∈ xT ∧ Cond.initialized yX3_ready.cls ∈ xT ∧ Cond.code yX3_ready cX3_ready 3 (some .int) ∈ xT ∧ (yX3_ready.cls ≠ "java/lang/invoke/MethodHandle" ∧ yX3_ready.cls ≠ "java/lang/invoke/VarHandle" ∧ (parseMethodDescriptor yX3_ready.desc).map (fun d => d.parameters.length) = some 3) := ⟨xT_m2 84 (by decide +kernel) rfl, xT_m1 9 (by decide +kernel) rfl, xT_m2 85 (by decide +kernel) rfl, by decide +kernel⟩
theorem xc_X2_67 : XCS RX2 67 yX3_ready cX3_ready 3 (some .int) 3 := ⟨xT_m2 83 (by decide +kernel) rfl, xm_X3_ready.1, xm_X3_ready.2.1, xm_X3_ready.2.2.1, xm_X3_ready.2.2.2⟩
theorem xp_X3_9 : XMa RX3 9 Lib.Math.max.name Lib.Math.max.code 2 (some .int) := ⟨xT_m2 86 (by decide +kernel) rfl, xT_m2 87 (by decide +kernel) rfl, xT_m1 10 (by decide +kernel) rfl, xT_m2 88 (by decide +kernel) rfl⟩
theorem xp_X2_101 : XMa RX2 101 Lib.Math.max.name Lib.Math.max.code 2 (some .int) := ⟨xT_m2 89 (by decide +kernel) rfl, xT_m2 87 (by decide +kernel) rfl, xT_m1 10 (by decide +kernel) rfl, xT_m2 88 (by decide +kernel) rfl⟩
theorem xm_X2_lastsOf : Cond.instanceMethod yX2_lastsOf ∈ xT ∧ Cond.selects RX2 yX2_lastsOf yX2_lastsOf ∈ xT ∧ Cond.initialized RX2 ∈ xT ∧ Cond.code yX2_lastsOf cX2_lastsOf 2 (some .int) ∈ xT ∧ (yX2_lastsOf.cls = RX2 ∧ yX2_lastsOf.cls ≠ "java/lang/invoke/MethodHandle" ∧ yX2_lastsOf.cls ≠ "java/lang/invoke/VarHandle" ∧ (parseMethodDescriptor yX2_lastsOf.desc).map (fun d => d.parameters.length) = some 1) := ⟨xT_m2 91 (by decide +kernel) rfl, xT_m2 92 (by decide +kernel) rfl, xT_m1 2 (by decide +kernel) rfl, xT_m2 93 (by decide +kernel) rfl, by decide +kernel⟩
theorem xc_X2_104 : XCV RX2 104 RX2 yX2_lastsOf cX2_lastsOf 2 (some .int) 1 := ⟨xT_m2 90 (by decide +kernel) rfl, xm_X2_lastsOf.1, xm_X2_lastsOf.2.1, xm_X2_lastsOf.2.2.1, xm_X2_lastsOf.2.2.2.1, xm_X2_lastsOf.2.2.2.2⟩
theorem xm_X3_lasts : Cond.static yX3_lasts ∈ xT ∧ Cond.initialized yX3_lasts.cls ∈ xT ∧ Cond.code yX3_lasts cX3_lasts 5 (some .int) ∈ xT ∧ (yX3_lasts.cls ≠ "java/lang/invoke/MethodHandle" ∧ yX3_lasts.cls ≠ "java/lang/invoke/VarHandle" ∧ (parseMethodDescriptor yX3_lasts.desc).map (fun d => d.parameters.length) = some 2) := ⟨xT_m2 95 (by decide +kernel) rfl, xT_m1 9 (by decide +kernel) rfl, xT_m2 96 (by decide +kernel) rfl, by decide +kernel⟩
theorem xc_X2_61 : XCS RX2 61 yX3_lasts cX3_lasts 5 (some .int) 2 := ⟨xT_m2 94 (by decide +kernel) rfl, xm_X3_lasts.1, xm_X3_lasts.2.1, xm_X3_lasts.2.2.1, xm_X3_lasts.2.2.2⟩
theorem xm_X4_clerkRests : Cond.static yX4_clerkRests ∈ xT ∧ Cond.initialized yX4_clerkRests.cls ∈ xT ∧ Cond.code yX4_clerkRests cX4_clerkRests 2 (some .boolean) ∈ xT ∧ (yX4_clerkRests.cls ≠ "java/lang/invoke/MethodHandle" ∧ yX4_clerkRests.cls ≠ "java/lang/invoke/VarHandle" ∧ (parseMethodDescriptor yX4_clerkRests.desc).map (fun d => d.parameters.length) = some 2) := ⟨xT_m2 98 (by decide +kernel) rfl, xT_m1 4 (by decide +kernel) rfl, xT_m2 99 (by decide +kernel) rfl, by decide +kernel⟩
theorem xc_X4_52 : XCS RX4 52 yX4_clerkRests cX4_clerkRests 2 (some .boolean) 2 := ⟨xT_m2 97 (by decide +kernel) rfl, xm_X4_clerkRests.1, xm_X4_clerkRests.2.1, xm_X4_clerkRests.2.2.1, xm_X4_clerkRests.2.2.2⟩
theorem xm_X2_restClerk : Cond.instanceMethod yX2_restClerk ∈ xT ∧ Cond.selects RX2 yX2_restClerk yX2_restClerk ∈ xT ∧ Cond.initialized RX2 ∈ xT ∧ Cond.code yX2_restClerk cX2_restClerk 3 none ∈ xT ∧ (yX2_restClerk.cls = RX2 ∧ yX2_restClerk.cls ≠ "java/lang/invoke/MethodHandle" ∧ yX2_restClerk.cls ≠ "java/lang/invoke/VarHandle" ∧ (parseMethodDescriptor yX2_restClerk.desc).map (fun d => d.parameters.length) = some 1) := ⟨xT_m2 101 (by decide +kernel) rfl, xT_m2 102 (by decide +kernel) rfl, xT_m1 2 (by decide +kernel) rfl, xT_m2 103 (by decide +kernel) rfl, by decide +kernel⟩
theorem xc_X4_86 : XCV RX4 86 RX2 yX2_restClerk cX2_restClerk 3 none 1 := ⟨xT_m2 100 (by decide +kernel) rfl, xm_X2_restClerk.1, xm_X2_restClerk.2.1, xm_X2_restClerk.2.2.1, xm_X2_restClerk.2.2.2.1, xm_X2_restClerk.2.2.2.2⟩
theorem xm_X5_forget : Cond.instanceMethod yX5_forget ∈ xT ∧ Cond.selects RX5 yX5_forget yX5_forget ∈ xT ∧ Cond.initialized RX5 ∈ xT ∧ Cond.code yX5_forget cX5_forget 1 none ∈ xT ∧ (yX5_forget.cls = RX5 ∧ yX5_forget.cls ≠ "java/lang/invoke/MethodHandle" ∧ yX5_forget.cls ≠ "java/lang/invoke/VarHandle" ∧ (parseMethodDescriptor yX5_forget.desc).map (fun d => d.parameters.length) = some 0) := ⟨xT_m2 105 (by decide +kernel) rfl, xT_m2 106 (by decide +kernel) rfl, xT_m1 3 (by decide +kernel) rfl, xT_m2 107 (by decide +kernel) rfl, by decide +kernel⟩
theorem xc_X6_92 : XCV RX6 92 RX5 yX5_forget cX5_forget 1 none 0 := ⟨xT_m2 104 (by decide +kernel) rfl, xm_X5_forget.1, xm_X5_forget.2.1, xm_X5_forget.2.2.1, xm_X5_forget.2.2.2.1, xm_X5_forget.2.2.2.2⟩
theorem xm_X6_coupleOf : Cond.instanceMethod yX6_coupleOf ∈ xT ∧ Cond.selects RX6 yX6_coupleOf yX6_coupleOf ∈ xT ∧ Cond.initialized RX6 ∈ xT ∧ Cond.code yX6_coupleOf cX6_coupleOf 3 (some .int) ∈ xT ∧ (yX6_coupleOf.cls = RX6 ∧ yX6_coupleOf.cls ≠ "java/lang/invoke/MethodHandle" ∧ yX6_coupleOf.cls ≠ "java/lang/invoke/VarHandle" ∧ (parseMethodDescriptor yX6_coupleOf.desc).map (fun d => d.parameters.length) = some 2) := ⟨xT_m2 109 (by decide +kernel) rfl, xT_m2 110 (by decide +kernel) rfl, xT_m1 1 (by decide +kernel) rfl, xT_m2 111 (by decide +kernel) rfl, by decide +kernel⟩
theorem xc_L_23 : XCV RL 23 RX6 yX6_coupleOf cX6_coupleOf 3 (some .int) 2 := ⟨xT_m2 108 (by decide +kernel) rfl, xm_X6_coupleOf.1, xm_X6_coupleOf.2.1, xm_X6_coupleOf.2.2.1, xm_X6_coupleOf.2.2.2.1, xm_X6_coupleOf.2.2.2.2⟩
theorem xc_X6_95 : XCV RX6 95 RX2 yX2_has cX2_has 2 (some .boolean) 1 := ⟨xT_m2 112 (by decide +kernel) rfl, xm_X2_has.1, xm_X2_has.2.1, xm_X2_has.2.2.1, xm_X2_has.2.2.2.1, xm_X2_has.2.2.2.2⟩
theorem xc_X6_107 : XCV RX6 107 RX2 yX2_isWed cX2_isWed 2 (some .boolean) 1 := ⟨xT_m2 113 (by decide +kernel) rfl, xm_X2_isWed.1, xm_X2_isWed.2.1, xm_X2_isWed.2.2.1, xm_X2_isWed.2.2.2.1, xm_X2_isWed.2.2.2.2⟩
theorem xc_X6_110 : XCV RX6 110 RX2 yX2_lastsOf cX2_lastsOf 2 (some .int) 1 := ⟨xT_m2 114 (by decide +kernel) rfl, xm_X2_lastsOf.1, xm_X2_lastsOf.2.1, xm_X2_lastsOf.2.2.1, xm_X2_lastsOf.2.2.2.1, xm_X2_lastsOf.2.2.2.2⟩
theorem xc_X6_113 : XCV RX6 113 RX2 yX2_readyOf cX2_readyOf 2 (some .int) 1 := ⟨xT_m2 115 (by decide +kernel) rfl, xm_X2_readyOf.1, xm_X2_readyOf.2.1, xm_X2_readyOf.2.2.1, xm_X2_readyOf.2.2.2.1, xm_X2_readyOf.2.2.2.2⟩
theorem xm_X2_guestsOf : Cond.instanceMethod yX2_guestsOf ∈ xT ∧ Cond.selects RX2 yX2_guestsOf yX2_guestsOf ∈ xT ∧ Cond.initialized RX2 ∈ xT ∧ Cond.code yX2_guestsOf cX2_guestsOf 2 (some .int) ∈ xT ∧ (yX2_guestsOf.cls = RX2 ∧ yX2_guestsOf.cls ≠ "java/lang/invoke/MethodHandle" ∧ yX2_guestsOf.cls ≠ "java/lang/invoke/VarHandle" ∧ (parseMethodDescriptor yX2_guestsOf.desc).map (fun d => d.parameters.length) = some 1) := ⟨xT_m2 117 (by decide +kernel) rfl, xT_m2 118 (by decide +kernel) rfl, xT_m1 2 (by decide +kernel) rfl, xT_m2 119 (by decide +kernel) rfl, by decide +kernel⟩
theorem xc_X6_116 : XCV RX6 116 RX2 yX2_guestsOf cX2_guestsOf 2 (some .int) 1 := ⟨xT_m2 116 (by decide +kernel) rfl, xm_X2_guestsOf.1, xm_X2_guestsOf.2.1, xm_X2_guestsOf.2.2.1, xm_X2_guestsOf.2.2.2.1, xm_X2_guestsOf.2.2.2.2⟩
theorem xm_X3_guests : Cond.static yX3_guests ∈ xT ∧ Cond.initialized yX3_guests.cls ∈ xT ∧ Cond.code yX3_guests cX3_guests 3 (some .int) ∈ xT ∧ (yX3_guests.cls ≠ "java/lang/invoke/MethodHandle" ∧ yX3_guests.cls ≠ "java/lang/invoke/VarHandle" ∧ (parseMethodDescriptor yX3_guests.desc).map (fun d => d.parameters.length) = some 2) := ⟨xT_m2 121 (by decide +kernel) rfl, xT_m1 9 (by decide +kernel) rfl, xT_m2 122 (by decide +kernel) rfl, by decide +kernel⟩
theorem xc_X2_71 : XCS RX2 71 yX3_guests cX3_guests 3 (some .int) 2 := ⟨xT_m2 120 (by decide +kernel) rfl, xm_X3_guests.1, xm_X3_guests.2.1, xm_X3_guests.2.2.1, xm_X3_guests.2.2.2⟩
theorem xm_X3_poses : Cond.static yX3_poses ∈ xT ∧ Cond.initialized yX3_poses.cls ∈ xT ∧ Cond.code yX3_poses cX3_poses 2 (some .int) ∈ xT ∧ (yX3_poses.cls ≠ "java/lang/invoke/MethodHandle" ∧ yX3_poses.cls ≠ "java/lang/invoke/VarHandle" ∧ (parseMethodDescriptor yX3_poses.desc).map (fun d => d.parameters.length) = some 2) := ⟨xT_m2 124 (by decide +kernel) rfl, xT_m1 9 (by decide +kernel) rfl, xT_m2 125 (by decide +kernel) rfl, by decide +kernel⟩
theorem xc_X6_119 : XCS RX6 119 yX3_poses cX3_poses 2 (some .int) 2 := ⟨xT_m2 123 (by decide +kernel) rfl, xm_X3_poses.1, xm_X3_poses.2.1, xm_X3_poses.2.2.1, xm_X3_poses.2.2.2⟩
theorem xm_X6_order : Cond.instanceMethod yX6_order ∈ xT ∧ Cond.selects RX6 yX6_order yX6_order ∈ xT ∧ Cond.initialized RX6 ∈ xT ∧ Cond.code yX6_order cX6_order 2 (some .int) ∈ xT ∧ (yX6_order.cls = RX6 ∧ yX6_order.cls ≠ "java/lang/invoke/MethodHandle" ∧ yX6_order.cls ≠ "java/lang/invoke/VarHandle" ∧ (parseMethodDescriptor yX6_order.desc).map (fun d => d.parameters.length) = some 1) := ⟨xT_m2 127 (by decide +kernel) rfl, xT_m2 128 (by decide +kernel) rfl, xT_m1 1 (by decide +kernel) rfl, xT_m2 129 (by decide +kernel) rfl, by decide +kernel⟩
theorem xc_L_28 : XCV RL 28 RX6 yX6_order cX6_order 2 (some .int) 1 := ⟨xT_m2 126 (by decide +kernel) rfl, xm_X6_order.1, xm_X6_order.2.1, xm_X6_order.2.2.1, xm_X6_order.2.2.2.1, xm_X6_order.2.2.2.2⟩
theorem xm_X6_free : Cond.instanceMethod yX6_free ∈ xT ∧ Cond.selects RX6 yX6_free yX6_free ∈ xT ∧ Cond.initialized RX6 ∈ xT ∧ Cond.code yX6_free cX6_free 2 (some .int) ∈ xT ∧ (yX6_free.cls = RX6 ∧ yX6_free.cls ≠ "java/lang/invoke/MethodHandle" ∧ yX6_free.cls ≠ "java/lang/invoke/VarHandle" ∧ (parseMethodDescriptor yX6_free.desc).map (fun d => d.parameters.length) = some 1) := ⟨xT_m2 131 (by decide +kernel) rfl, xT_m2 132 (by decide +kernel) rfl, xT_m1 1 (by decide +kernel) rfl, xT_m2 133 (by decide +kernel) rfl, by decide +kernel⟩
theorem xc_L_32 : XCV RL 32 RX6 yX6_free cX6_free 2 (some .int) 1 := ⟨xT_m2 130 (by decide +kernel) rfl, xm_X6_free.1, xm_X6_free.2.1, xm_X6_free.2.2.1, xm_X6_free.2.2.2.1, xm_X6_free.2.2.2.2⟩
theorem xm_X6_couple : Cond.instanceMethod yX6_couple ∈ xT ∧ Cond.selects RX6 yX6_couple yX6_couple ∈ xT ∧ Cond.initialized RX6 ∈ xT ∧ Cond.code yX6_couple cX6_couple 4 (some .int) ∈ xT ∧ (yX6_couple.cls = RX6 ∧ yX6_couple.cls ≠ "java/lang/invoke/MethodHandle" ∧ yX6_couple.cls ≠ "java/lang/invoke/VarHandle" ∧ (parseMethodDescriptor yX6_couple.desc).map (fun d => d.parameters.length) = some 3) := ⟨xT_m2 135 (by decide +kernel) rfl, xT_m2 136 (by decide +kernel) rfl, xT_m1 1 (by decide +kernel) rfl, xT_m2 137 (by decide +kernel) rfl, by decide +kernel⟩
theorem xc_L_36 : XCV RL 36 RX6 yX6_couple cX6_couple 4 (some .int) 3 := ⟨xT_m2 134 (by decide +kernel) rfl, xm_X6_couple.1, xm_X6_couple.2.1, xm_X6_couple.2.2.1, xm_X6_couple.2.2.2.1, xm_X6_couple.2.2.2.2⟩
theorem xc_X6_137 : XCS RX6 137 yX3_isOne cX3_isOne 1 (some .boolean) 1 := ⟨xT_m2 138 (by decide +kernel) rfl, xm_X3_isOne.1, xm_X3_isOne.2.1, xm_X3_isOne.2.2.1, xm_X3_isOne.2.2.2⟩
theorem xc_X6_140 : XCV RX6 140 RX2 yX2_isFull cX2_isFull 1 (some .boolean) 0 := ⟨xT_m2 139 (by decide +kernel) rfl, xm_X2_isFull.1, xm_X2_isFull.2.1, xm_X2_isFull.2.2.1, xm_X2_isFull.2.2.2.1, xm_X2_isFull.2.2.2.2⟩
theorem xc_X6_144 : XCV RX6 144 RX2 yX2_add cX2_add 4 none 3 := ⟨xT_m2 140 (by decide +kernel) rfl, xm_X2_add.1, xm_X2_add.2.1, xm_X2_add.2.2.1, xm_X2_add.2.2.2.1, xm_X2_add.2.2.2.2⟩
theorem xm_X6_rooms : Cond.instanceMethod yX6_rooms ∈ xT ∧ Cond.selects RX6 yX6_rooms yX6_rooms ∈ xT ∧ Cond.initialized RX6 ∈ xT ∧ Cond.code yX6_rooms cX6_rooms 3 (some .int) ∈ xT ∧ (yX6_rooms.cls = RX6 ∧ yX6_rooms.cls ≠ "java/lang/invoke/MethodHandle" ∧ yX6_rooms.cls ≠ "java/lang/invoke/VarHandle" ∧ (parseMethodDescriptor yX6_rooms.desc).map (fun d => d.parameters.length) = some 1) := ⟨xT_m2 142 (by decide +kernel) rfl, xT_m2 143 (by decide +kernel) rfl, xT_m1 1 (by decide +kernel) rfl, xT_m2 144 (by decide +kernel) rfl, by decide +kernel⟩
theorem xc_L_41 : XCV RL 41 RX6 yX6_rooms cX6_rooms 3 (some .int) 1 := ⟨xT_m2 141 (by decide +kernel) rfl, xm_X6_rooms.1, xm_X6_rooms.2.1, xm_X6_rooms.2.2.1, xm_X6_rooms.2.2.2.1, xm_X6_rooms.2.2.2.2⟩
theorem xc_X6_151 : XCV RX6 151 RX2 yX2_openRooms cX2_openRooms 2 none 1 := ⟨xT_m2 145 (by decide +kernel) rfl, xm_X2_openRooms.1, xm_X2_openRooms.2.1, xm_X2_openRooms.2.2.1, xm_X2_openRooms.2.2.2.1, xm_X2_openRooms.2.2.2.2⟩
theorem xm_X6_weds : Cond.instanceMethod yX6_weds ∈ xT ∧ Cond.selects RX6 yX6_weds yX6_weds ∈ xT ∧ Cond.initialized RX6 ∈ xT ∧ Cond.code yX6_weds cX6_weds 3 (some .int) ∈ xT ∧ (yX6_weds.cls = RX6 ∧ yX6_weds.cls ≠ "java/lang/invoke/MethodHandle" ∧ yX6_weds.cls ≠ "java/lang/invoke/VarHandle" ∧ (parseMethodDescriptor yX6_weds.desc).map (fun d => d.parameters.length) = some 1) := ⟨xT_m2 147 (by decide +kernel) rfl, xT_m2 148 (by decide +kernel) rfl, xT_m1 1 (by decide +kernel) rfl, xT_m2 149 (by decide +kernel) rfl, by decide +kernel⟩
theorem xc_L_45 : XCV RL 45 RX6 yX6_weds cX6_weds 3 (some .int) 1 := ⟨xT_m2 146 (by decide +kernel) rfl, xm_X6_weds.1, xm_X6_weds.2.1, xm_X6_weds.2.2.1, xm_X6_weds.2.2.2.1, xm_X6_weds.2.2.2.2⟩
theorem xm_X5_keep : Cond.instanceMethod yX5_keep ∈ xT ∧ Cond.selects RX5 yX5_keep yX5_keep ∈ xT ∧ Cond.initialized RX5 ∈ xT ∧ Cond.code yX5_keep cX5_keep 2 none ∈ xT ∧ (yX5_keep.cls = RX5 ∧ yX5_keep.cls ≠ "java/lang/invoke/MethodHandle" ∧ yX5_keep.cls ≠ "java/lang/invoke/VarHandle" ∧ (parseMethodDescriptor yX5_keep.desc).map (fun d => d.parameters.length) = some 1) := ⟨xT_m2 151 (by decide +kernel) rfl, xT_m2 152 (by decide +kernel) rfl, xT_m1 3 (by decide +kernel) rfl, xT_m2 153 (by decide +kernel) rfl, by decide +kernel⟩
theorem xc_X6_155 : XCV RX6 155 RX5 yX5_keep cX5_keep 2 none 1 := ⟨xT_m2 150 (by decide +kernel) rfl, xm_X5_keep.1, xm_X5_keep.2.1, xm_X5_keep.2.2.1, xm_X5_keep.2.2.2.1, xm_X5_keep.2.2.2.2⟩
theorem xc_X5_23 : XCV RX5 23 RX2 yX2_become cX2_become 2 none 1 := ⟨xT_m2 154 (by decide +kernel) rfl, xm_X2_become.1, xm_X2_become.2.1, xm_X2_become.2.2.1, xm_X2_become.2.2.2.1, xm_X2_become.2.2.2.2⟩
theorem xc_X6_158 : XCV RX6 158 RX2 yX2_wedSome cX2_wedSome 4 none 1 := ⟨xT_m2 155 (by decide +kernel) rfl, xm_X2_wedSome.1, xm_X2_wedSome.2.1, xm_X2_wedSome.2.2.1, xm_X2_wedSome.2.2.2.1, xm_X2_wedSome.2.2.2.2⟩
theorem xm_X6_pulls : Cond.instanceMethod yX6_pulls ∈ xT ∧ Cond.selects RX6 yX6_pulls yX6_pulls ∈ xT ∧ Cond.initialized RX6 ∈ xT ∧ Cond.code yX6_pulls cX6_pulls 3 (some .int) ∈ xT ∧ (yX6_pulls.cls = RX6 ∧ yX6_pulls.cls ≠ "java/lang/invoke/MethodHandle" ∧ yX6_pulls.cls ≠ "java/lang/invoke/VarHandle" ∧ (parseMethodDescriptor yX6_pulls.desc).map (fun d => d.parameters.length) = some 1) := ⟨xT_m2 157 (by decide +kernel) rfl, xT_m2 158 (by decide +kernel) rfl, xT_m1 1 (by decide +kernel) rfl, xT_m2 159 (by decide +kernel) rfl, by decide +kernel⟩
theorem xc_L_49 : XCV RL 49 RX6 yX6_pulls cX6_pulls 3 (some .int) 1 := ⟨xT_m2 156 (by decide +kernel) rfl, xm_X6_pulls.1, xm_X6_pulls.2.1, xm_X6_pulls.2.2.1, xm_X6_pulls.2.2.2.1, xm_X6_pulls.2.2.2.2⟩
theorem xc_X6_164 : XCV RX6 164 RX2 yX2_placeOf cX2_placeOf 3 (some .int) 1 := ⟨xT_m2 160 (by decide +kernel) rfl, xm_X2_placeOf.1, xm_X2_placeOf.2.1, xm_X2_placeOf.2.2.1, xm_X2_placeOf.2.2.2.1, xm_X2_placeOf.2.2.2.2⟩
theorem xc_X6_167 : XCV RX6 167 RX2 yX2_putFirst cX2_putFirst 4 none 1 := ⟨xT_m2 161 (by decide +kernel) rfl, xm_X2_putFirst.1, xm_X2_putFirst.2.1, xm_X2_putFirst.2.2.1, xm_X2_putFirst.2.2.2.1, xm_X2_putFirst.2.2.2.2⟩
theorem xm_X6_slack : Cond.instanceMethod yX6_slack ∈ xT ∧ Cond.selects RX6 yX6_slack yX6_slack ∈ xT ∧ Cond.initialized RX6 ∈ xT ∧ Cond.code yX6_slack cX6_slack 3 (some .int) ∈ xT ∧ (yX6_slack.cls = RX6 ∧ yX6_slack.cls ≠ "java/lang/invoke/MethodHandle" ∧ yX6_slack.cls ≠ "java/lang/invoke/VarHandle" ∧ (parseMethodDescriptor yX6_slack.desc).map (fun d => d.parameters.length) = some 1) := ⟨xT_m2 163 (by decide +kernel) rfl, xT_m2 164 (by decide +kernel) rfl, xT_m1 1 (by decide +kernel) rfl, xT_m2 165 (by decide +kernel) rfl, by decide +kernel⟩
theorem xc_L_53 : XCV RL 53 RX6 yX6_slack cX6_slack 3 (some .int) 1 := ⟨xT_m2 162 (by decide +kernel) rfl, xm_X6_slack.1, xm_X6_slack.2.1, xm_X6_slack.2.2.1, xm_X6_slack.2.2.2.1, xm_X6_slack.2.2.2.2⟩
theorem xm_X6_rests : Cond.instanceMethod yX6_rests ∈ xT ∧ Cond.selects RX6 yX6_rests yX6_rests ∈ xT ∧ Cond.initialized RX6 ∈ xT ∧ Cond.code yX6_rests cX6_rests 3 (some .int) ∈ xT ∧ (yX6_rests.cls = RX6 ∧ yX6_rests.cls ≠ "java/lang/invoke/MethodHandle" ∧ yX6_rests.cls ≠ "java/lang/invoke/VarHandle" ∧ (parseMethodDescriptor yX6_rests.desc).map (fun d => d.parameters.length) = some 1) := ⟨xT_m2 167 (by decide +kernel) rfl, xT_m2 168 (by decide +kernel) rfl, xT_m1 1 (by decide +kernel) rfl, xT_m2 169 (by decide +kernel) rfl, by decide +kernel⟩
theorem xc_L_57 : XCV RL 57 RX6 yX6_rests cX6_rests 3 (some .int) 1 := ⟨xT_m2 166 (by decide +kernel) rfl, xm_X6_rests.1, xm_X6_rests.2.1, xm_X6_rests.2.2.1, xm_X6_rests.2.2.2.1, xm_X6_rests.2.2.2.2⟩
theorem xc_X6_176 : XCV RX6 176 RX2 yX2_restClerk cX2_restClerk 3 none 1 := ⟨xT_m2 170 (by decide +kernel) rfl, xm_X2_restClerk.1, xm_X2_restClerk.2.1, xm_X2_restClerk.2.2.1, xm_X2_restClerk.2.2.2.1, xm_X2_restClerk.2.2.2.2⟩
theorem xm_X6_back : Cond.instanceMethod yX6_back ∈ xT ∧ Cond.selects RX6 yX6_back yX6_back ∈ xT ∧ Cond.initialized RX6 ∈ xT ∧ Cond.code yX6_back cX6_back 1 (some .int) ∈ xT ∧ (yX6_back.cls = RX6 ∧ yX6_back.cls ≠ "java/lang/invoke/MethodHandle" ∧ yX6_back.cls ≠ "java/lang/invoke/VarHandle" ∧ (parseMethodDescriptor yX6_back.desc).map (fun d => d.parameters.length) = some 0) := ⟨xT_m2 172 (by decide +kernel) rfl, xT_m2 173 (by decide +kernel) rfl, xT_m1 1 (by decide +kernel) rfl, xT_m2 174 (by decide +kernel) rfl, by decide +kernel⟩
theorem xc_L_61 : XCV RL 61 RX6 yX6_back cX6_back 1 (some .int) 0 := ⟨xT_m2 171 (by decide +kernel) rfl, xm_X6_back.1, xm_X6_back.2.1, xm_X6_back.2.2.1, xm_X6_back.2.2.2.1, xm_X6_back.2.2.2.2⟩
theorem xm_X5_giveBack : Cond.instanceMethod yX5_giveBack ∈ xT ∧ Cond.selects RX5 yX5_giveBack yX5_giveBack ∈ xT ∧ Cond.initialized RX5 ∈ xT ∧ Cond.code yX5_giveBack cX5_giveBack 2 (some .boolean) ∈ xT ∧ (yX5_giveBack.cls = RX5 ∧ yX5_giveBack.cls ≠ "java/lang/invoke/MethodHandle" ∧ yX5_giveBack.cls ≠ "java/lang/invoke/VarHandle" ∧ (parseMethodDescriptor yX5_giveBack.desc).map (fun d => d.parameters.length) = some 1) := ⟨xT_m2 176 (by decide +kernel) rfl, xT_m2 177 (by decide +kernel) rfl, xT_m1 3 (by decide +kernel) rfl, xT_m2 178 (by decide +kernel) rfl, by decide +kernel⟩
theorem xc_X6_179 : XCV RX6 179 RX5 yX5_giveBack cX5_giveBack 2 (some .boolean) 1 := ⟨xT_m2 175 (by decide +kernel) rfl, xm_X5_giveBack.1, xm_X5_giveBack.2.1, xm_X5_giveBack.2.2.1, xm_X5_giveBack.2.2.2.1, xm_X5_giveBack.2.2.2.2⟩
theorem xm_X6_when : Cond.instanceMethod yX6_when ∈ xT ∧ Cond.selects RX6 yX6_when yX6_when ∈ xT ∧ Cond.initialized RX6 ∈ xT ∧ Cond.code yX6_when cX6_when 4 (some .int) ∈ xT ∧ (yX6_when.cls = RX6 ∧ yX6_when.cls ≠ "java/lang/invoke/MethodHandle" ∧ yX6_when.cls ≠ "java/lang/invoke/VarHandle" ∧ (parseMethodDescriptor yX6_when.desc).map (fun d => d.parameters.length) = some 2) := ⟨xT_m2 180 (by decide +kernel) rfl, xT_m2 181 (by decide +kernel) rfl, xT_m1 1 (by decide +kernel) rfl, xT_m2 182 (by decide +kernel) rfl, by decide +kernel⟩
theorem xc_L_65 : XCV RL 65 RX6 yX6_when cX6_when 4 (some .int) 2 := ⟨xT_m2 179 (by decide +kernel) rfl, xm_X6_when.1, xm_X6_when.2.1, xm_X6_when.2.2.1, xm_X6_when.2.2.2.1, xm_X6_when.2.2.2.2⟩
theorem xm_X6_inMind : Cond.instanceMethod yX6_inMind ∈ xT ∧ Cond.selects RX6 yX6_inMind yX6_inMind ∈ xT ∧ Cond.initialized RX6 ∈ xT ∧ Cond.code yX6_inMind cX6_inMind 2 (some (.object "EveryTwentyMinutes$Hall")) ∈ xT ∧ (yX6_inMind.cls = RX6 ∧ yX6_inMind.cls ≠ "java/lang/invoke/MethodHandle" ∧ yX6_inMind.cls ≠ "java/lang/invoke/VarHandle" ∧ (parseMethodDescriptor yX6_inMind.desc).map (fun d => d.parameters.length) = some 0) := ⟨xT_m2 185 (by decide +kernel) rfl, xT_m0 6 (by decide +kernel) rfl, xT_m1 1 (by decide +kernel) rfl, xT_m2 186 (by decide +kernel) rfl, by decide +kernel⟩
theorem xc_X6_184 : XCV RX6 184 RX6 yX6_inMind cX6_inMind 2 (some (.object "EveryTwentyMinutes$Hall")) 0 := ⟨xT_m2 183 (by decide +kernel) rfl, xm_X6_inMind.1, xm_X6_inMind.2.1, xm_X6_inMind.2.2.1, xm_X6_inMind.2.2.2.1, xm_X6_inMind.2.2.2.2⟩
theorem xm_X2_wedAll : Cond.instanceMethod yX2_wedAll ∈ xT ∧ Cond.selects RX2 yX2_wedAll yX2_wedAll ∈ xT ∧ Cond.initialized RX2 ∈ xT ∧ Cond.code yX2_wedAll cX2_wedAll 1 none ∈ xT ∧ (yX2_wedAll.cls = RX2 ∧ yX2_wedAll.cls ≠ "java/lang/invoke/MethodHandle" ∧ yX2_wedAll.cls ≠ "java/lang/invoke/VarHandle" ∧ (parseMethodDescriptor yX2_wedAll.desc).map (fun d => d.parameters.length) = some 0) := ⟨xT_m2 188 (by decide +kernel) rfl, xT_m2 189 (by decide +kernel) rfl, xT_m1 2 (by decide +kernel) rfl, xT_m2 190 (by decide +kernel) rfl, by decide +kernel⟩
theorem xc_X6_226 : XCV RX6 226 RX2 yX2_wedAll cX2_wedAll 1 none 0 := ⟨xT_m2 187 (by decide +kernel) rfl, xm_X2_wedAll.1, xm_X2_wedAll.2.1, xm_X2_wedAll.2.2.1, xm_X2_wedAll.2.2.2.1, xm_X2_wedAll.2.2.2.2⟩
theorem xc_X2_87 : XCV RX2 87 RX2 yX2_wedSome cX2_wedSome 4 none 1 := ⟨xT_m2 191 (by decide +kernel) rfl, xm_X2_wedSome.1, xm_X2_wedSome.2.1, xm_X2_wedSome.2.2.1, xm_X2_wedSome.2.2.2.1, xm_X2_wedSome.2.2.2.2⟩
theorem xm_X2_lateOf : Cond.instanceMethod yX2_lateOf ∈ xT ∧ Cond.selects RX2 yX2_lateOf yX2_lateOf ∈ xT ∧ Cond.initialized RX2 ∈ xT ∧ Cond.code yX2_lateOf cX2_lateOf 2 (some .int) ∈ xT ∧ (yX2_lateOf.cls = RX2 ∧ yX2_lateOf.cls ≠ "java/lang/invoke/MethodHandle" ∧ yX2_lateOf.cls ≠ "java/lang/invoke/VarHandle" ∧ (parseMethodDescriptor yX2_lateOf.desc).map (fun d => d.parameters.length) = some 1) := ⟨xT_m2 193 (by decide +kernel) rfl, xT_m2 194 (by decide +kernel) rfl, xT_m1 2 (by decide +kernel) rfl, xT_m2 195 (by decide +kernel) rfl, by decide +kernel⟩
theorem xc_X6_193 : XCV RX6 193 RX2 yX2_lateOf cX2_lateOf 2 (some .int) 1 := ⟨xT_m2 192 (by decide +kernel) rfl, xm_X2_lateOf.1, xm_X2_lateOf.2.1, xm_X2_lateOf.2.2.1, xm_X2_lateOf.2.2.2.1, xm_X2_lateOf.2.2.2.2⟩
theorem xm_X6_waits : Cond.instanceMethod yX6_waits ∈ xT ∧ Cond.selects RX6 yX6_waits yX6_waits ∈ xT ∧ Cond.initialized RX6 ∈ xT ∧ Cond.code yX6_waits cX6_waits 2 (some .int) ∈ xT ∧ (yX6_waits.cls = RX6 ∧ yX6_waits.cls ≠ "java/lang/invoke/MethodHandle" ∧ yX6_waits.cls ≠ "java/lang/invoke/VarHandle" ∧ (parseMethodDescriptor yX6_waits.desc).map (fun d => d.parameters.length) = some 1) := ⟨xT_m2 197 (by decide +kernel) rfl, xT_m2 198 (by decide +kernel) rfl, xT_m1 1 (by decide +kernel) rfl, xT_m2 199 (by decide +kernel) rfl, by decide +kernel⟩
theorem xc_L_69 : XCV RL 69 RX6 yX6_waits cX6_waits 2 (some .int) 1 := ⟨xT_m2 196 (by decide +kernel) rfl, xm_X6_waits.1, xm_X6_waits.2.1, xm_X6_waits.2.2.1, xm_X6_waits.2.2.2.1, xm_X6_waits.2.2.2.2⟩
theorem xm_X2_waitOf : Cond.instanceMethod yX2_waitOf ∈ xT ∧ Cond.selects RX2 yX2_waitOf yX2_waitOf ∈ xT ∧ Cond.initialized RX2 ∈ xT ∧ Cond.code yX2_waitOf cX2_waitOf 2 (some .int) ∈ xT ∧ (yX2_waitOf.cls = RX2 ∧ yX2_waitOf.cls ≠ "java/lang/invoke/MethodHandle" ∧ yX2_waitOf.cls ≠ "java/lang/invoke/VarHandle" ∧ (parseMethodDescriptor yX2_waitOf.desc).map (fun d => d.parameters.length) = some 1) := ⟨xT_m2 202 (by decide +kernel) rfl, xT_m2 203 (by decide +kernel) rfl, xT_m1 2 (by decide +kernel) rfl, xT_m2 204 (by decide +kernel) rfl, by decide +kernel⟩
theorem xc_X6_197 : XCV RX6 197 RX2 yX2_waitOf cX2_waitOf 2 (some .int) 1 := ⟨xT_m2 201 (by decide +kernel) rfl, xm_X2_waitOf.1, xm_X2_waitOf.2.1, xm_X2_waitOf.2.2.1, xm_X2_waitOf.2.2.2.1, xm_X2_waitOf.2.2.2.2⟩
theorem xm_X6_all : Cond.instanceMethod yX6_all ∈ xT ∧ Cond.selects RX6 yX6_all yX6_all ∈ xT ∧ Cond.initialized RX6 ∈ xT ∧ Cond.code yX6_all cX6_all 2 (some .int) ∈ xT ∧ (yX6_all.cls = RX6 ∧ yX6_all.cls ≠ "java/lang/invoke/MethodHandle" ∧ yX6_all.cls ≠ "java/lang/invoke/VarHandle" ∧ (parseMethodDescriptor yX6_all.desc).map (fun d => d.parameters.length) = some 1) := ⟨xT_m2 206 (by decide +kernel) rfl, xT_m2 207 (by decide +kernel) rfl, xT_m1 1 (by decide +kernel) rfl, xT_m2 208 (by decide +kernel) rfl, by decide +kernel⟩
theorem xc_L_73 : XCV RL 73 RX6 yX6_all cX6_all 2 (some .int) 1 := ⟨xT_m2 205 (by decide +kernel) rfl, xm_X6_all.1, xm_X6_all.2.1, xm_X6_all.2.2.1, xm_X6_all.2.2.2.1, xm_X6_all.2.2.2.2⟩
theorem xm_X2_allLate : Cond.instanceMethod yX2_allLate ∈ xT ∧ Cond.selects RX2 yX2_allLate yX2_allLate ∈ xT ∧ Cond.initialized RX2 ∈ xT ∧ Cond.code yX2_allLate cX2_allLate 3 (some .int) ∈ xT ∧ (yX2_allLate.cls = RX2 ∧ yX2_allLate.cls ≠ "java/lang/invoke/MethodHandle" ∧ yX2_allLate.cls ≠ "java/lang/invoke/VarHandle" ∧ (parseMethodDescriptor yX2_allLate.desc).map (fun d => d.parameters.length) = some 0) := ⟨xT_m2 210 (by decide +kernel) rfl, xT_m2 211 (by decide +kernel) rfl, xT_m1 2 (by decide +kernel) rfl, xT_m2 212 (by decide +kernel) rfl, by decide +kernel⟩
theorem xc_X6_200 : XCV RX6 200 RX2 yX2_allLate cX2_allLate 3 (some .int) 0 := ⟨xT_m2 209 (by decide +kernel) rfl, xm_X2_allLate.1, xm_X2_allLate.2.1, xm_X2_allLate.2.2.1, xm_X2_allLate.2.2.2.1, xm_X2_allLate.2.2.2.2⟩
theorem xc_X2_107 : XCV RX2 107 RX2 yX2_lateOf cX2_lateOf 2 (some .int) 1 := ⟨xT_m2 213 (by decide +kernel) rfl, xm_X2_lateOf.1, xm_X2_lateOf.2.1, xm_X2_lateOf.2.2.1, xm_X2_lateOf.2.2.2.1, xm_X2_lateOf.2.2.2.2⟩
theorem xm_X2_last : Cond.instanceMethod yX2_last ∈ xT ∧ Cond.selects RX2 yX2_last yX2_last ∈ xT ∧ Cond.initialized RX2 ∈ xT ∧ Cond.code yX2_last cX2_last 3 (some .int) ∈ xT ∧ (yX2_last.cls = RX2 ∧ yX2_last.cls ≠ "java/lang/invoke/MethodHandle" ∧ yX2_last.cls ≠ "java/lang/invoke/VarHandle" ∧ (parseMethodDescriptor yX2_last.desc).map (fun d => d.parameters.length) = some 0) := ⟨xT_m2 215 (by decide +kernel) rfl, xT_m2 216 (by decide +kernel) rfl, xT_m1 2 (by decide +kernel) rfl, xT_m2 217 (by decide +kernel) rfl, by decide +kernel⟩
theorem xc_X6_203 : XCV RX6 203 RX2 yX2_last cX2_last 3 (some .int) 0 := ⟨xT_m2 214 (by decide +kernel) rfl, xm_X2_last.1, xm_X2_last.2.1, xm_X2_last.2.2.1, xm_X2_last.2.2.2.1, xm_X2_last.2.2.2.2⟩
theorem xm_X6_met : Cond.instanceMethod yX6_met ∈ xT ∧ Cond.selects RX6 yX6_met yX6_met ∈ xT ∧ Cond.initialized RX6 ∈ xT ∧ Cond.code yX6_met cX6_met 2 (some .int) ∈ xT ∧ (yX6_met.cls = RX6 ∧ yX6_met.cls ≠ "java/lang/invoke/MethodHandle" ∧ yX6_met.cls ≠ "java/lang/invoke/VarHandle" ∧ (parseMethodDescriptor yX6_met.desc).map (fun d => d.parameters.length) = some 1) := ⟨xT_m2 219 (by decide +kernel) rfl, xT_m2 220 (by decide +kernel) rfl, xT_m1 1 (by decide +kernel) rfl, xT_m2 221 (by decide +kernel) rfl, by decide +kernel⟩
theorem xc_L_77 : XCV RL 77 RX6 yX6_met cX6_met 2 (some .int) 1 := ⟨xT_m2 218 (by decide +kernel) rfl, xm_X6_met.1, xm_X6_met.2.1, xm_X6_met.2.2.1, xm_X6_met.2.2.2.1, xm_X6_met.2.2.2.2⟩
theorem xm_X2_meetings : Cond.instanceMethod yX2_meetings ∈ xT ∧ Cond.selects RX2 yX2_meetings yX2_meetings ∈ xT ∧ Cond.initialized RX2 ∈ xT ∧ Cond.code yX2_meetings cX2_meetings 4 (some .int) ∈ xT ∧ (yX2_meetings.cls = RX2 ∧ yX2_meetings.cls ≠ "java/lang/invoke/MethodHandle" ∧ yX2_meetings.cls ≠ "java/lang/invoke/VarHandle" ∧ (parseMethodDescriptor yX2_meetings.desc).map (fun d => d.parameters.length) = some 0) := ⟨xT_m2 223 (by decide +kernel) rfl, xT_m2 224 (by decide +kernel) rfl, xT_m1 2 (by decide +kernel) rfl, xT_m2 225 (by decide +kernel) rfl, by decide +kernel⟩
theorem xc_X6_206 : XCV RX6 206 RX2 yX2_meetings cX2_meetings 4 (some .int) 0 := ⟨xT_m2 222 (by decide +kernel) rfl, xm_X2_meetings.1, xm_X2_meetings.2.1, xm_X2_meetings.2.2.1, xm_X2_meetings.2.2.2.1, xm_X2_meetings.2.2.2.2⟩
theorem xm_X2_meet : Cond.instanceMethod yX2_meet ∈ xT ∧ Cond.selects RX2 yX2_meet yX2_meet ∈ xT ∧ Cond.initialized RX2 ∈ xT ∧ Cond.code yX2_meet cX2_meet 3 (some .boolean) ∈ xT ∧ (yX2_meet.cls = RX2 ∧ yX2_meet.cls ≠ "java/lang/invoke/MethodHandle" ∧ yX2_meet.cls ≠ "java/lang/invoke/VarHandle" ∧ (parseMethodDescriptor yX2_meet.desc).map (fun d => d.parameters.length) = some 2) := ⟨xT_m2 227 (by decide +kernel) rfl, xT_m2 228 (by decide +kernel) rfl, xT_m1 2 (by decide +kernel) rfl, xT_m2 229 (by decide +kernel) rfl, by decide +kernel⟩
theorem xc_X2_117 : XCV RX2 117 RX2 yX2_meet cX2_meet 3 (some .boolean) 2 := ⟨xT_m2 226 (by decide +kernel) rfl, xm_X2_meet.1, xm_X2_meet.2.1, xm_X2_meet.2.2.1, xm_X2_meet.2.2.2.1, xm_X2_meet.2.2.2.2⟩
theorem xp_X2_114 : XMa RX2 114 Lib.Math.abs.name Lib.Math.abs.code 1 (some .int) := ⟨xT_m2 230 (by decide +kernel) rfl, xT_m2 231 (by decide +kernel) rfl, xT_m1 10 (by decide +kernel) rfl, xT_m2 232 (by decide +kernel) rfl⟩
theorem xm_X2_firstMeeting : Cond.instanceMethod yX2_firstMeeting ∈ xT ∧ Cond.selects RX2 yX2_firstMeeting yX2_firstMeeting ∈ xT ∧ Cond.initialized RX2 ∈ xT ∧ Cond.code yX2_firstMeeting cX2_firstMeeting 3 (some .int) ∈ xT ∧ (yX2_firstMeeting.cls = RX2 ∧ yX2_firstMeeting.cls ≠ "java/lang/invoke/MethodHandle" ∧ yX2_firstMeeting.cls ≠ "java/lang/invoke/VarHandle" ∧ (parseMethodDescriptor yX2_firstMeeting.desc).map (fun d => d.parameters.length) = some 0) := ⟨xT_m2 234 (by decide +kernel) rfl, xT_m2 235 (by decide +kernel) rfl, xT_m1 2 (by decide +kernel) rfl, xT_m2 236 (by decide +kernel) rfl, by decide +kernel⟩
theorem xc_X6_209 : XCV RX6 209 RX2 yX2_firstMeeting cX2_firstMeeting 3 (some .int) 0 := ⟨xT_m2 233 (by decide +kernel) rfl, xm_X2_firstMeeting.1, xm_X2_firstMeeting.2.1, xm_X2_firstMeeting.2.2.1, xm_X2_firstMeeting.2.2.2.1, xm_X2_firstMeeting.2.2.2.2⟩
theorem xm_X2_strayed : Cond.instanceMethod yX2_strayed ∈ xT ∧ Cond.selects RX2 yX2_strayed yX2_strayed ∈ xT ∧ Cond.initialized RX2 ∈ xT ∧ Cond.code yX2_strayed cX2_strayed 6 (some .int) ∈ xT ∧ (yX2_strayed.cls = RX2 ∧ yX2_strayed.cls ≠ "java/lang/invoke/MethodHandle" ∧ yX2_strayed.cls ≠ "java/lang/invoke/VarHandle" ∧ (parseMethodDescriptor yX2_strayed.desc).map (fun d => d.parameters.length) = some 0) := ⟨xT_m2 238 (by decide +kernel) rfl, xT_m2 239 (by decide +kernel) rfl, xT_m1 2 (by decide +kernel) rfl, xT_m3 0 (by decide +kernel) rfl, by decide +kernel⟩
theorem xc_X6_212 : XCV RX6 212 RX2 yX2_strayed cX2_strayed 6 (some .int) 0 := ⟨xT_m2 237 (by decide +kernel) rfl, xm_X2_strayed.1, xm_X2_strayed.2.1, xm_X2_strayed.2.2.1, xm_X2_strayed.2.2.2.1, xm_X2_strayed.2.2.2.2⟩
theorem xm_X6_best : Cond.instanceMethod yX6_best ∈ xT ∧ Cond.selects RX6 yX6_best yX6_best ∈ xT ∧ Cond.initialized RX6 ∈ xT ∧ Cond.code yX6_best cX6_best 2 (some .int) ∈ xT ∧ (yX6_best.cls = RX6 ∧ yX6_best.cls ≠ "java/lang/invoke/MethodHandle" ∧ yX6_best.cls ≠ "java/lang/invoke/VarHandle" ∧ (parseMethodDescriptor yX6_best.desc).map (fun d => d.parameters.length) = some 1) := ⟨xT_m3 2 (by decide +kernel) rfl, xT_m3 3 (by decide +kernel) rfl, xT_m1 1 (by decide +kernel) rfl, xT_m3 4 (by decide +kernel) rfl, by decide +kernel⟩
theorem xc_L_81 : XCV RL 81 RX6 yX6_best cX6_best 2 (some .int) 1 := ⟨xT_m3 1 (by decide +kernel) rfl, xm_X6_best.1, xm_X6_best.2.1, xm_X6_best.2.2.1, xm_X6_best.2.2.2.1, xm_X6_best.2.2.2.2⟩
theorem xm_X0_find : Cond.instanceMethod yX0_find ∈ xT ∧ Cond.selects RX0 yX0_find yX0_find ∈ xT ∧ Cond.initialized RX0 ∈ xT ∧ Cond.code yX0_find cX0_find 2 none ∈ xT ∧ (yX0_find.cls = RX0 ∧ yX0_find.cls ≠ "java/lang/invoke/MethodHandle" ∧ yX0_find.cls ≠ "java/lang/invoke/VarHandle" ∧ (parseMethodDescriptor yX0_find.desc).map (fun d => d.parameters.length) = some 1) := ⟨xT_m3 6 (by decide +kernel) rfl, xT_m3 7 (by decide +kernel) rfl, xT_m1 5 (by decide +kernel) rfl, xT_m3 8 (by decide +kernel) rfl, by decide +kernel⟩
theorem xc_X6_215 : XCV RX6 215 RX0 yX0_find cX0_find 2 none 1 := ⟨xT_m3 5 (by decide +kernel) rfl, xm_X0_find.1, xm_X0_find.2.1, xm_X0_find.2.2.1, xm_X0_find.2.2.2.1, xm_X0_find.2.2.2.2⟩
theorem xc_X0_32 : XCV RX0 32 RX2 yX2_become cX2_become 2 none 1 := ⟨xT_m3 9 (by decide +kernel) rfl, xm_X2_become.1, xm_X2_become.2.1, xm_X2_become.2.2.1, xm_X2_become.2.2.2.1, xm_X2_become.2.2.2.2⟩
theorem xm_X2_lateOfWed : Cond.instanceMethod yX2_lateOfWed ∈ xT ∧ Cond.selects RX2 yX2_lateOfWed yX2_lateOfWed ∈ xT ∧ Cond.initialized RX2 ∈ xT ∧ Cond.code yX2_lateOfWed cX2_lateOfWed 3 (some .int) ∈ xT ∧ (yX2_lateOfWed.cls = RX2 ∧ yX2_lateOfWed.cls ≠ "java/lang/invoke/MethodHandle" ∧ yX2_lateOfWed.cls ≠ "java/lang/invoke/VarHandle" ∧ (parseMethodDescriptor yX2_lateOfWed.desc).map (fun d => d.parameters.length) = some 0) := ⟨xT_m3 12 (by decide +kernel) rfl, xT_m3 13 (by decide +kernel) rfl, xT_m1 2 (by decide +kernel) rfl, xT_m3 14 (by decide +kernel) rfl, by decide +kernel⟩
theorem xc_X0_43 : XCV RX0 43 RX2 yX2_lateOfWed cX2_lateOfWed 3 (some .int) 0 := ⟨xT_m3 11 (by decide +kernel) rfl, xm_X2_lateOfWed.1, xm_X2_lateOfWed.2.1, xm_X2_lateOfWed.2.2.1, xm_X2_lateOfWed.2.2.2.1, xm_X2_lateOfWed.2.2.2.2⟩
theorem xc_X2_110 : XCV RX2 110 RX2 yX2_isWed cX2_isWed 2 (some .boolean) 1 := ⟨xT_m3 15 (by decide +kernel) rfl, xm_X2_isWed.1, xm_X2_isWed.2.1, xm_X2_isWed.2.2.1, xm_X2_isWed.2.2.2.1, xm_X2_isWed.2.2.2.2⟩
theorem xm_X0_seek : Cond.static yX0_seek ∈ xT ∧ Cond.initialized yX0_seek.cls ∈ xT ∧ Cond.code yX0_seek cX0_seek 9 none ∈ xT ∧ (yX0_seek.cls ≠ "java/lang/invoke/MethodHandle" ∧ yX0_seek.cls ≠ "java/lang/invoke/VarHandle" ∧ (parseMethodDescriptor yX0_seek.desc).map (fun d => d.parameters.length) = some 4) := ⟨xT_m3 17 (by decide +kernel) rfl, xT_m1 5 (by decide +kernel) rfl, xT_m3 18 (by decide +kernel) rfl, by decide +kernel⟩
theorem xc_X0_47 : XCS RX0 47 yX0_seek cX0_seek 9 none 4 := ⟨xT_m3 16 (by decide +kernel) rfl, xm_X0_seek.1, xm_X0_seek.2.1, xm_X0_seek.2.2.1, xm_X0_seek.2.2.2⟩
theorem xp_X0_51 : XCp RX0 51 := ⟨xT_m3 19 (by decide +kernel) rfl, xT_m2 6 (by decide +kernel) rfl, xT_m2 5 (by decide +kernel) rfl, xT_m1 8 (by decide +kernel) rfl⟩
theorem xc_X0_66 : XCV RX0 66 RX2 yX2_hold cX2_hold 6 none 2 := ⟨xT_m3 20 (by decide +kernel) rfl, xm_X2_hold.1, xm_X2_hold.2.1, xm_X2_hold.2.2.1, xm_X2_hold.2.2.2.1, xm_X2_hold.2.2.2.2⟩
theorem xc_X0_70 : XCV RX0 70 RX2 yX2_lateOf cX2_lateOf 2 (some .int) 1 := ⟨xT_m3 21 (by decide +kernel) rfl, xm_X2_lateOf.1, xm_X2_lateOf.2.1, xm_X2_lateOf.2.2.1, xm_X2_lateOf.2.2.2.1, xm_X2_lateOf.2.2.2.2⟩
theorem xm_X6_pull : Cond.instanceMethod yX6_pull ∈ xT ∧ Cond.selects RX6 yX6_pull yX6_pull ∈ xT ∧ Cond.initialized RX6 ∈ xT ∧ Cond.code yX6_pull cX6_pull 6 (some .int) ∈ xT ∧ (yX6_pull.cls = RX6 ∧ yX6_pull.cls ≠ "java/lang/invoke/MethodHandle" ∧ yX6_pull.cls ≠ "java/lang/invoke/VarHandle" ∧ (parseMethodDescriptor yX6_pull.desc).map (fun d => d.parameters.length) = some 0) := ⟨xT_m3 23 (by decide +kernel) rfl, xT_m3 24 (by decide +kernel) rfl, xT_m1 1 (by decide +kernel) rfl, xT_m3 25 (by decide +kernel) rfl, by decide +kernel⟩
theorem xc_L_85 : XCV RL 85 RX6 yX6_pull cX6_pull 6 (some .int) 0 := ⟨xT_m3 22 (by decide +kernel) rfl, xm_X6_pull.1, xm_X6_pull.2.1, xm_X6_pull.2.2.1, xm_X6_pull.2.2.2.1, xm_X6_pull.2.2.2.2⟩
theorem xm_X6_lateBy : Cond.static yX6_lateBy ∈ xT ∧ Cond.initialized yX6_lateBy.cls ∈ xT ∧ Cond.code yX6_lateBy cX6_lateBy 1 (some .int) ∈ xT ∧ (yX6_lateBy.cls ≠ "java/lang/invoke/MethodHandle" ∧ yX6_lateBy.cls ≠ "java/lang/invoke/VarHandle" ∧ (parseMethodDescriptor yX6_lateBy.desc).map (fun d => d.parameters.length) = some 1) := ⟨xT_m3 27 (by decide +kernel) rfl, xT_m1 1 (by decide +kernel) rfl, xT_m3 28 (by decide +kernel) rfl, by decide +kernel⟩
theorem xc_X6_223 : XCS RX6 223 yX6_lateBy cX6_lateBy 1 (some .int) 1 := ⟨xT_m3 26 (by decide +kernel) rfl, xm_X6_lateBy.1, xm_X6_lateBy.2.1, xm_X6_lateBy.2.2.1, xm_X6_lateBy.2.2.2⟩
theorem xm_X6_bestSlack : Cond.instanceMethod yX6_bestSlack ∈ xT ∧ Cond.selects RX6 yX6_bestSlack yX6_bestSlack ∈ xT ∧ Cond.initialized RX6 ∈ xT ∧ Cond.code yX6_bestSlack cX6_bestSlack 7 (some .int) ∈ xT ∧ (yX6_bestSlack.cls = RX6 ∧ yX6_bestSlack.cls ≠ "java/lang/invoke/MethodHandle" ∧ yX6_bestSlack.cls ≠ "java/lang/invoke/VarHandle" ∧ (parseMethodDescriptor yX6_bestSlack.desc).map (fun d => d.parameters.length) = some 1) := ⟨xT_m3 30 (by decide +kernel) rfl, xT_m3 31 (by decide +kernel) rfl, xT_m1 1 (by decide +kernel) rfl, xT_m3 32 (by decide +kernel) rfl, by decide +kernel⟩
theorem xc_L_89 : XCV RL 89 RX6 yX6_bestSlack cX6_bestSlack 7 (some .int) 1 := ⟨xT_m3 29 (by decide +kernel) rfl, xm_X6_bestSlack.1, xm_X6_bestSlack.2.1, xm_X6_bestSlack.2.2.1, xm_X6_bestSlack.2.2.2.1, xm_X6_bestSlack.2.2.2.2⟩
theorem xm_X6_rest : Cond.instanceMethod yX6_rest ∈ xT ∧ Cond.selects RX6 yX6_rest yX6_rest ∈ xT ∧ Cond.initialized RX6 ∈ xT ∧ Cond.code yX6_rest cX6_rest 6 (some .int) ∈ xT ∧ (yX6_rest.cls = RX6 ∧ yX6_rest.cls ≠ "java/lang/invoke/MethodHandle" ∧ yX6_rest.cls ≠ "java/lang/invoke/VarHandle" ∧ (parseMethodDescriptor yX6_rest.desc).map (fun d => d.parameters.length) = some 0) := ⟨xT_m3 34 (by decide +kernel) rfl, xT_m3 35 (by decide +kernel) rfl, xT_m1 1 (by decide +kernel) rfl, xT_m3 36 (by decide +kernel) rfl, by decide +kernel⟩
theorem xc_L_93 : XCV RL 93 RX6 yX6_rest cX6_rest 6 (some .int) 0 := ⟨xT_m3 33 (by decide +kernel) rfl, xm_X6_rest.1, xm_X6_rest.2.1, xm_X6_rest.2.2.1, xm_X6_rest.2.2.2.1, xm_X6_rest.2.2.2.2⟩
theorem xm_X6_saved : Cond.instanceMethod yX6_saved ∈ xT ∧ Cond.selects RX6 yX6_saved yX6_saved ∈ xT ∧ Cond.initialized RX6 ∈ xT ∧ Cond.code yX6_saved cX6_saved 3 (some .int) ∈ xT ∧ (yX6_saved.cls = RX6 ∧ yX6_saved.cls ≠ "java/lang/invoke/MethodHandle" ∧ yX6_saved.cls ≠ "java/lang/invoke/VarHandle" ∧ (parseMethodDescriptor yX6_saved.desc).map (fun d => d.parameters.length) = some 0) := ⟨xT_m3 38 (by decide +kernel) rfl, xT_m3 39 (by decide +kernel) rfl, xT_m1 1 (by decide +kernel) rfl, xT_m3 40 (by decide +kernel) rfl, by decide +kernel⟩
theorem xc_L_97 : XCV RL 97 RX6 yX6_saved cX6_saved 3 (some .int) 0 := ⟨xT_m3 37 (by decide +kernel) rfl, xm_X6_saved.1, xm_X6_saved.2.1, xm_X6_saved.2.2.1, xm_X6_saved.2.2.2.1, xm_X6_saved.2.2.2.2⟩
theorem xm_X6_can : Cond.instanceMethod yX6_can ∈ xT ∧ Cond.selects RX6 yX6_can yX6_can ∈ xT ∧ Cond.initialized RX6 ∈ xT ∧ Cond.code yX6_can cX6_can 7 (some .int) ∈ xT ∧ (yX6_can.cls = RX6 ∧ yX6_can.cls ≠ "java/lang/invoke/MethodHandle" ∧ yX6_can.cls ≠ "java/lang/invoke/VarHandle" ∧ (parseMethodDescriptor yX6_can.desc).map (fun d => d.parameters.length) = some 3) := ⟨xT_m3 42 (by decide +kernel) rfl, xT_m3 43 (by decide +kernel) rfl, xT_m1 1 (by decide +kernel) rfl, xT_m3 44 (by decide +kernel) rfl, by decide +kernel⟩
theorem xc_L_101 : XCV RL 101 RX6 yX6_can cX6_can 7 (some .int) 3 := ⟨xT_m3 41 (by decide +kernel) rfl, xm_X6_can.1, xm_X6_can.2.1, xm_X6_can.2.2.1, xm_X6_can.2.2.2.1, xm_X6_can.2.2.2.2⟩
theorem xm_X6_fountain : Cond.instanceMethod yX6_fountain ∈ xT ∧ Cond.selects RX6 yX6_fountain yX6_fountain ∈ xT ∧ Cond.initialized RX6 ∈ xT ∧ Cond.code yX6_fountain cX6_fountain 2 (some .int) ∈ xT ∧ (yX6_fountain.cls = RX6 ∧ yX6_fountain.cls ≠ "java/lang/invoke/MethodHandle" ∧ yX6_fountain.cls ≠ "java/lang/invoke/VarHandle" ∧ (parseMethodDescriptor yX6_fountain.desc).map (fun d => d.parameters.length) = some 1) := ⟨xT_m3 46 (by decide +kernel) rfl, xT_m3 47 (by decide +kernel) rfl, xT_m1 1 (by decide +kernel) rfl, xT_m3 48 (by decide +kernel) rfl, by decide +kernel⟩
theorem xc_L_105 : XCV RL 105 RX6 yX6_fountain cX6_fountain 2 (some .int) 1 := ⟨xT_m3 45 (by decide +kernel) rfl, xm_X6_fountain.1, xm_X6_fountain.2.1, xm_X6_fountain.2.2.1, xm_X6_fountain.2.2.2.1, xm_X6_fountain.2.2.2.2⟩
theorem xm_X1_take : Cond.instanceMethod yX1_take ∈ xT ∧ Cond.selects RX1 yX1_take yX1_take ∈ xT ∧ Cond.initialized RX1 ∈ xT ∧ Cond.code yX1_take cX1_take 8 none ∈ xT ∧ (yX1_take.cls = RX1 ∧ yX1_take.cls ≠ "java/lang/invoke/MethodHandle" ∧ yX1_take.cls ≠ "java/lang/invoke/VarHandle" ∧ (parseMethodDescriptor yX1_take.desc).map (fun d => d.parameters.length) = some 1) := ⟨xT_m3 50 (by decide +kernel) rfl, xT_m3 51 (by decide +kernel) rfl, xT_m1 6 (by decide +kernel) rfl, xT_m3 52 (by decide +kernel) rfl, by decide +kernel⟩
theorem xc_X6_229 : XCV RX6 229 RX1 yX1_take cX1_take 8 none 1 := ⟨xT_m3 49 (by decide +kernel) rfl, xm_X1_take.1, xm_X1_take.2.1, xm_X1_take.2.2.1, xm_X1_take.2.2.2.1, xm_X1_take.2.2.2.2⟩
theorem xm_X1_next : Cond.static yX1_next ∈ xT ∧ Cond.initialized yX1_next.cls ∈ xT ∧ Cond.code yX1_next cX1_next 4 (some .int) ∈ xT ∧ (yX1_next.cls ≠ "java/lang/invoke/MethodHandle" ∧ yX1_next.cls ≠ "java/lang/invoke/VarHandle" ∧ (parseMethodDescriptor yX1_next.desc).map (fun d => d.parameters.length) = some 2) := ⟨xT_m3 54 (by decide +kernel) rfl, xT_m1 6 (by decide +kernel) rfl, xT_m3 55 (by decide +kernel) rfl, by decide +kernel⟩
theorem xc_X1_27 : XCS RX1 27 yX1_next cX1_next 4 (some .int) 2 := ⟨xT_m3 53 (by decide +kernel) rfl, xm_X1_next.1, xm_X1_next.2.1, xm_X1_next.2.2.1, xm_X1_next.2.2.2⟩
theorem xp_X1_34 : XMa RX1 34 Lib.Math.max.name Lib.Math.max.code 2 (some .int) := ⟨xT_m3 56 (by decide +kernel) rfl, xT_m2 87 (by decide +kernel) rfl, xT_m1 10 (by decide +kernel) rfl, xT_m2 88 (by decide +kernel) rfl⟩
theorem xc_X1_46 : XCS RX1 46 yX3_poses cX3_poses 2 (some .int) 2 := ⟨xT_m3 57 (by decide +kernel) rfl, xm_X3_poses.1, xm_X3_poses.2.1, xm_X3_poses.2.2.1, xm_X3_poses.2.2.2⟩
theorem xm_X6_fountains : Cond.instanceMethod yX6_fountains ∈ xT ∧ Cond.selects RX6 yX6_fountains yX6_fountains ∈ xT ∧ Cond.initialized RX6 ∈ xT ∧ Cond.code yX6_fountains cX6_fountains 2 (some .int) ∈ xT ∧ (yX6_fountains.cls = RX6 ∧ yX6_fountains.cls ≠ "java/lang/invoke/MethodHandle" ∧ yX6_fountains.cls ≠ "java/lang/invoke/VarHandle" ∧ (parseMethodDescriptor yX6_fountains.desc).map (fun d => d.parameters.length) = some 1) := ⟨xT_m3 59 (by decide +kernel) rfl, xT_m3 60 (by decide +kernel) rfl, xT_m1 1 (by decide +kernel) rfl, xT_m3 61 (by decide +kernel) rfl, by decide +kernel⟩
theorem xc_L_109 : XCV RL 109 RX6 yX6_fountains cX6_fountains 2 (some .int) 1 := ⟨xT_m3 58 (by decide +kernel) rfl, xm_X6_fountains.1, xm_X6_fountains.2.1, xm_X6_fountains.2.2.1, xm_X6_fountains.2.2.2.1, xm_X6_fountains.2.2.2.2⟩
theorem xm_X6_inside : Cond.instanceMethod yX6_inside ∈ xT ∧ Cond.selects RX6 yX6_inside yX6_inside ∈ xT ∧ Cond.initialized RX6 ∈ xT ∧ Cond.code yX6_inside cX6_inside 2 (some .int) ∈ xT ∧ (yX6_inside.cls = RX6 ∧ yX6_inside.cls ≠ "java/lang/invoke/MethodHandle" ∧ yX6_inside.cls ≠ "java/lang/invoke/VarHandle" ∧ (parseMethodDescriptor yX6_inside.desc).map (fun d => d.parameters.length) = some 1) := ⟨xT_m3 63 (by decide +kernel) rfl, xT_m3 64 (by decide +kernel) rfl, xT_m1 1 (by decide +kernel) rfl, xT_m3 65 (by decide +kernel) rfl, by decide +kernel⟩
theorem xc_L_113 : XCV RL 113 RX6 yX6_inside cX6_inside 2 (some .int) 1 := ⟨xT_m3 62 (by decide +kernel) rfl, xm_X6_inside.1, xm_X6_inside.2.1, xm_X6_inside.2.2.1, xm_X6_inside.2.2.2.1, xm_X6_inside.2.2.2.2⟩
theorem xm_X2_guestsAt : Cond.instanceMethod yX2_guestsAt ∈ xT ∧ Cond.selects RX2 yX2_guestsAt yX2_guestsAt ∈ xT ∧ Cond.initialized RX2 ∈ xT ∧ Cond.code yX2_guestsAt cX2_guestsAt 4 (some .int) ∈ xT ∧ (yX2_guestsAt.cls = RX2 ∧ yX2_guestsAt.cls ≠ "java/lang/invoke/MethodHandle" ∧ yX2_guestsAt.cls ≠ "java/lang/invoke/VarHandle" ∧ (parseMethodDescriptor yX2_guestsAt.desc).map (fun d => d.parameters.length) = some 1) := ⟨xT_m3 67 (by decide +kernel) rfl, xT_m3 68 (by decide +kernel) rfl, xT_m1 2 (by decide +kernel) rfl, xT_m3 69 (by decide +kernel) rfl, by decide +kernel⟩
theorem xc_X6_238 : XCV RX6 238 RX2 yX2_guestsAt cX2_guestsAt 4 (some .int) 1 := ⟨xT_m3 66 (by decide +kernel) rfl, xm_X2_guestsAt.1, xm_X2_guestsAt.2.1, xm_X2_guestsAt.2.2.1, xm_X2_guestsAt.2.2.2.1, xm_X2_guestsAt.2.2.2.2⟩
theorem xc_X2_121 : XCV RX2 121 RX2 yX2_guestsOf cX2_guestsOf 2 (some .int) 1 := ⟨xT_m3 70 (by decide +kernel) rfl, xm_X2_guestsOf.1, xm_X2_guestsOf.2.1, xm_X2_guestsOf.2.2.1, xm_X2_guestsOf.2.2.2.1, xm_X2_guestsOf.2.2.2.2⟩
theorem xm_X6_crowded : Cond.instanceMethod yX6_crowded ∈ xT ∧ Cond.selects RX6 yX6_crowded yX6_crowded ∈ xT ∧ Cond.initialized RX6 ∈ xT ∧ Cond.code yX6_crowded cX6_crowded 6 (some .int) ∈ xT ∧ (yX6_crowded.cls = RX6 ∧ yX6_crowded.cls ≠ "java/lang/invoke/MethodHandle" ∧ yX6_crowded.cls ≠ "java/lang/invoke/VarHandle" ∧ (parseMethodDescriptor yX6_crowded.desc).map (fun d => d.parameters.length) = some 0) := ⟨xT_m3 72 (by decide +kernel) rfl, xT_m3 73 (by decide +kernel) rfl, xT_m1 1 (by decide +kernel) rfl, xT_m3 74 (by decide +kernel) rfl, by decide +kernel⟩
theorem xc_L_117 : XCV RL 117 RX6 yX6_crowded cX6_crowded 6 (some .int) 0 := ⟨xT_m3 71 (by decide +kernel) rfl, xm_X6_crowded.1, xm_X6_crowded.2.1, xm_X6_crowded.2.2.1, xm_X6_crowded.2.2.2.1, xm_X6_crowded.2.2.2.2⟩
theorem xm_X6_price : Cond.instanceMethod yX6_price ∈ xT ∧ Cond.selects RX6 yX6_price yX6_price ∈ xT ∧ Cond.initialized RX6 ∈ xT ∧ Cond.code yX6_price cX6_price 4 (some .int) ∈ xT ∧ (yX6_price.cls = RX6 ∧ yX6_price.cls ≠ "java/lang/invoke/MethodHandle" ∧ yX6_price.cls ≠ "java/lang/invoke/VarHandle" ∧ (parseMethodDescriptor yX6_price.desc).map (fun d => d.parameters.length) = some 1) := ⟨xT_m3 76 (by decide +kernel) rfl, xT_m3 77 (by decide +kernel) rfl, xT_m1 1 (by decide +kernel) rfl, xT_m3 78 (by decide +kernel) rfl, by decide +kernel⟩
theorem xc_L_121 : XCV RL 121 RX6 yX6_price cX6_price 4 (some .int) 1 := ⟨xT_m3 75 (by decide +kernel) rfl, xm_X6_price.1, xm_X6_price.2.1, xm_X6_price.2.2.1, xm_X6_price.2.2.2.1, xm_X6_price.2.2.2.2⟩
theorem xp_X6_241 : XMa RX6 241 Lib.Math.abs.name Lib.Math.abs.code 1 (some .int) := ⟨xT_m3 79 (by decide +kernel) rfl, xT_m2 231 (by decide +kernel) rfl, xT_m1 10 (by decide +kernel) rfl, xT_m2 232 (by decide +kernel) rfl⟩
theorem xm_X6_odds : Cond.instanceMethod yX6_odds ∈ xT ∧ Cond.selects RX6 yX6_odds yX6_odds ∈ xT ∧ Cond.initialized RX6 ∈ xT ∧ Cond.code yX6_odds cX6_odds 11 (some .long) ∈ xT ∧ (yX6_odds.cls = RX6 ∧ yX6_odds.cls ≠ "java/lang/invoke/MethodHandle" ∧ yX6_odds.cls ≠ "java/lang/invoke/VarHandle" ∧ (parseMethodDescriptor yX6_odds.desc).map (fun d => d.parameters.length) = some 4) := ⟨xT_m3 81 (by decide +kernel) rfl, xT_m3 82 (by decide +kernel) rfl, xT_m1 1 (by decide +kernel) rfl, xT_m3 83 (by decide +kernel) rfl, by decide +kernel⟩
theorem xc_L_125 : XCV RL 125 RX6 yX6_odds cX6_odds 11 (some .long) 4 := ⟨xT_m3 80 (by decide +kernel) rfl, xm_X6_odds.1, xm_X6_odds.2.1, xm_X6_odds.2.2.1, xm_X6_odds.2.2.2.1, xm_X6_odds.2.2.2.2⟩
theorem xp_X6_248 : XMa RX6 248 Lib.Math.min.name Lib.Math.min.code 2 (some .int) := ⟨xT_m3 85 (by decide +kernel) rfl, xT_m2 69 (by decide +kernel) rfl, xT_m1 10 (by decide +kernel) rfl, xT_m2 70 (by decide +kernel) rfl⟩
theorem xc_X6_251 : XCV RX6 251 RX2 yX2_wedFirst cX2_wedFirst 4 none 1 := ⟨xT_m3 86 (by decide +kernel) rfl, xm_X2_wedFirst.1, xm_X2_wedFirst.2.1, xm_X2_wedFirst.2.2.1, xm_X2_wedFirst.2.2.2.1, xm_X2_wedFirst.2.2.2.2⟩
theorem xm_J6_bitCount_0f7a4 : Cond.static yJ6_bitCount_0f7a4 ∈ xT ∧ Cond.initialized yJ6_bitCount_0f7a4.cls ∈ xT ∧ Cond.code yJ6_bitCount_0f7a4 cJ6_bitCount_0f7a4 1 (some .int) ∈ xT ∧ (yJ6_bitCount_0f7a4.cls ≠ "java/lang/invoke/MethodHandle" ∧ yJ6_bitCount_0f7a4.cls ≠ "java/lang/invoke/VarHandle" ∧ (parseMethodDescriptor yJ6_bitCount_0f7a4.desc).map (fun d => d.parameters.length) = some 1) := ⟨xT_m3 88 (by decide +kernel) rfl, xT_m1 11 (by decide +kernel) rfl, xT_m3 89 (by decide +kernel) rfl, by decide +kernel⟩
theorem xc_X6_254 : XCS RX6 254 yJ6_bitCount_0f7a4 cJ6_bitCount_0f7a4 1 (some .int) 1 := ⟨xT_m3 87 (by decide +kernel) rfl, xm_J6_bitCount_0f7a4.1, xm_J6_bitCount_0f7a4.2.1, xm_J6_bitCount_0f7a4.2.2.1, xm_J6_bitCount_0f7a4.2.2.2⟩
theorem xm_X6_power : Cond.static yX6_power ∈ xT ∧ Cond.initialized yX6_power.cls ∈ xT ∧ Cond.code yX6_power cX6_power 5 (some .long) ∈ xT ∧ (yX6_power.cls ≠ "java/lang/invoke/MethodHandle" ∧ yX6_power.cls ≠ "java/lang/invoke/VarHandle" ∧ (parseMethodDescriptor yX6_power.desc).map (fun d => d.parameters.length) = some 2) := ⟨xT_m3 94 (by decide +kernel) rfl, xT_m1 1 (by decide +kernel) rfl, xT_m3 95 (by decide +kernel) rfl, by decide +kernel⟩
theorem xc_X6_259 : XCS RX6 259 yX6_power cX6_power 5 (some .long) 2 := ⟨xT_m3 93 (by decide +kernel) rfl, xm_X6_power.1, xm_X6_power.2.1, xm_X6_power.2.2.1, xm_X6_power.2.2.2⟩
theorem xm_X6_lowest : Cond.static yX6_lowest ∈ xT ∧ Cond.initialized yX6_lowest.cls ∈ xT ∧ Cond.code yX6_lowest cX6_lowest 12 (some .long) ∈ xT ∧ (yX6_lowest.cls ≠ "java/lang/invoke/MethodHandle" ∧ yX6_lowest.cls ≠ "java/lang/invoke/VarHandle" ∧ (parseMethodDescriptor yX6_lowest.desc).map (fun d => d.parameters.length) = some 3) := ⟨xT_m3 97 (by decide +kernel) rfl, xT_m1 1 (by decide +kernel) rfl, xT_m3 98 (by decide +kernel) rfl, by decide +kernel⟩
theorem xc_X6_263 : XCS RX6 263 yX6_lowest cX6_lowest 12 (some .long) 3 := ⟨xT_m3 96 (by decide +kernel) rfl, xm_X6_lowest.1, xm_X6_lowest.2.1, xm_X6_lowest.2.2.1, xm_X6_lowest.2.2.2⟩
theorem xp_X6_316 : XMa RX6 316 Lib.MathLoose.max_long.x Lib.MathLoose.max_long.code 4 (some .long) := ⟨xT_m3 99 (by decide +kernel) rfl, xT_m3 100 (by decide +kernel) rfl, xT_m1 10 (by decide +kernel) rfl, xT_m3 101 (by decide +kernel) rfl⟩
theorem xm_X6_two : Cond.instanceMethod yX6_two ∈ xT ∧ Cond.selects RX6 yX6_two yX6_two ∈ xT ∧ Cond.initialized RX6 ∈ xT ∧ Cond.code yX6_two cX6_two 5 (some .int) ∈ xT ∧ (yX6_two.cls = RX6 ∧ yX6_two.cls ≠ "java/lang/invoke/MethodHandle" ∧ yX6_two.cls ≠ "java/lang/invoke/VarHandle" ∧ (parseMethodDescriptor yX6_two.desc).map (fun d => d.parameters.length) = some 2) := ⟨xT_m3 103 (by decide +kernel) rfl, xT_m3 104 (by decide +kernel) rfl, xT_m1 1 (by decide +kernel) rfl, xT_m3 105 (by decide +kernel) rfl, by decide +kernel⟩
theorem xc_L_130 : XCV RL 130 RX6 yX6_two cX6_two 5 (some .int) 2 := ⟨xT_m3 102 (by decide +kernel) rfl, xm_X6_two.1, xm_X6_two.2.1, xm_X6_two.2.2.1, xm_X6_two.2.2.2.1, xm_X6_two.2.2.2.2⟩
theorem xm_X6_oneIsContent : Cond.instanceMethod yX6_oneIsContent ∈ xT ∧ Cond.selects RX6 yX6_oneIsContent yX6_oneIsContent ∈ xT ∧ Cond.initialized RX6 ∈ xT ∧ Cond.code yX6_oneIsContent cX6_oneIsContent 7 (some .boolean) ∈ xT ∧ (yX6_oneIsContent.cls = RX6 ∧ yX6_oneIsContent.cls ≠ "java/lang/invoke/MethodHandle" ∧ yX6_oneIsContent.cls ≠ "java/lang/invoke/VarHandle" ∧ (parseMethodDescriptor yX6_oneIsContent.desc).map (fun d => d.parameters.length) = some 4) := ⟨xT_m3 108 (by decide +kernel) rfl, xT_m0 7 (by decide +kernel) rfl, xT_m1 1 (by decide +kernel) rfl, xT_m3 109 (by decide +kernel) rfl, by decide +kernel⟩
theorem xc_X6_267 : XCV RX6 267 RX6 yX6_oneIsContent cX6_oneIsContent 7 (some .boolean) 4 := ⟨xT_m3 106 (by decide +kernel) rfl, xm_X6_oneIsContent.1, xm_X6_oneIsContent.2.1, xm_X6_oneIsContent.2.2.1, xm_X6_oneIsContent.2.2.2.1, xm_X6_oneIsContent.2.2.2.2⟩
theorem xm_X6_askedBy : Cond.instanceMethod yX6_askedBy ∈ xT ∧ Cond.selects RX6 yX6_askedBy yX6_askedBy ∈ xT ∧ Cond.initialized RX6 ∈ xT ∧ Cond.code yX6_askedBy cX6_askedBy 6 (some (.object "EveryTwentyMinutes$Hall")) ∈ xT ∧ (yX6_askedBy.cls = RX6 ∧ yX6_askedBy.cls ≠ "java/lang/invoke/MethodHandle" ∧ yX6_askedBy.cls ≠ "java/lang/invoke/VarHandle" ∧ (parseMethodDescriptor yX6_askedBy.desc).map (fun d => d.parameters.length) = some 4) := ⟨xT_m3 112 (by decide +kernel) rfl, xT_m0 8 (by decide +kernel) rfl, xT_m1 1 (by decide +kernel) rfl, xT_m3 113 (by decide +kernel) rfl, by decide +kernel⟩
theorem xc_X6_309 : XCV RX6 309 RX6 yX6_askedBy cX6_askedBy 6 (some (.object "EveryTwentyMinutes$Hall")) 4 := ⟨xT_m3 110 (by decide +kernel) rfl, xm_X6_askedBy.1, xm_X6_askedBy.2.1, xm_X6_askedBy.2.2.1, xm_X6_askedBy.2.2.2.1, xm_X6_askedBy.2.2.2.2⟩
theorem xm_X6_otherIsContent : Cond.instanceMethod yX6_otherIsContent ∈ xT ∧ Cond.selects RX6 yX6_otherIsContent yX6_otherIsContent ∈ xT ∧ Cond.initialized RX6 ∈ xT ∧ Cond.code yX6_otherIsContent cX6_otherIsContent 7 (some .boolean) ∈ xT ∧ (yX6_otherIsContent.cls = RX6 ∧ yX6_otherIsContent.cls ≠ "java/lang/invoke/MethodHandle" ∧ yX6_otherIsContent.cls ≠ "java/lang/invoke/VarHandle" ∧ (parseMethodDescriptor yX6_otherIsContent.desc).map (fun d => d.parameters.length) = some 4) := ⟨xT_m3 116 (by decide +kernel) rfl, xT_m0 9 (by decide +kernel) rfl, xT_m1 1 (by decide +kernel) rfl, xT_m3 117 (by decide +kernel) rfl, by decide +kernel⟩
theorem xc_X6_271 : XCV RX6 271 RX6 yX6_otherIsContent cX6_otherIsContent 7 (some .boolean) 4 := ⟨xT_m3 114 (by decide +kernel) rfl, xm_X6_otherIsContent.1, xm_X6_otherIsContent.2.1, xm_X6_otherIsContent.2.2.1, xm_X6_otherIsContent.2.2.2.1, xm_X6_otherIsContent.2.2.2.2⟩
theorem xm_X6_whatWas : Cond.instanceMethod yX6_whatWas ∈ xT ∧ Cond.selects RX6 yX6_whatWas yX6_whatWas ∈ xT ∧ Cond.initialized RX6 ∈ xT ∧ Cond.code yX6_whatWas cX6_whatWas 3 (some .int) ∈ xT ∧ (yX6_whatWas.cls = RX6 ∧ yX6_whatWas.cls ≠ "java/lang/invoke/MethodHandle" ∧ yX6_whatWas.cls ≠ "java/lang/invoke/VarHandle" ∧ (parseMethodDescriptor yX6_whatWas.desc).map (fun d => d.parameters.length) = some 2) := ⟨xT_m3 119 (by decide +kernel) rfl, xT_m3 120 (by decide +kernel) rfl, xT_m1 1 (by decide +kernel) rfl, xT_m3 121 (by decide +kernel) rfl, by decide +kernel⟩
theorem xc_L_134 : XCV RL 134 RX6 yX6_whatWas cX6_whatWas 3 (some .int) 2 := ⟨xT_m3 118 (by decide +kernel) rfl, xm_X6_whatWas.1, xm_X6_whatWas.2.1, xm_X6_whatWas.2.2.1, xm_X6_whatWas.2.2.2.1, xm_X6_whatWas.2.2.2.2⟩
theorem xm_X6_kindsTold : Cond.instanceMethod yX6_kindsTold ∈ xT ∧ Cond.selects RX6 yX6_kindsTold yX6_kindsTold ∈ xT ∧ Cond.initialized RX6 ∈ xT ∧ Cond.code yX6_kindsTold cX6_kindsTold 5 (some .int) ∈ xT ∧ (yX6_kindsTold.cls = RX6 ∧ yX6_kindsTold.cls ≠ "java/lang/invoke/MethodHandle" ∧ yX6_kindsTold.cls ≠ "java/lang/invoke/VarHandle" ∧ (parseMethodDescriptor yX6_kindsTold.desc).map (fun d => d.parameters.length) = some 1) := ⟨xT_m3 124 (by decide +kernel) rfl, xT_m0 10 (by decide +kernel) rfl, xT_m1 1 (by decide +kernel) rfl, xT_m3 125 (by decide +kernel) rfl, by decide +kernel⟩
theorem xc_X6_274 : XCV RX6 274 RX6 yX6_kindsTold cX6_kindsTold 5 (some .int) 1 := ⟨xT_m3 122 (by decide +kernel) rfl, xm_X6_kindsTold.1, xm_X6_kindsTold.2.1, xm_X6_kindsTold.2.2.1, xm_X6_kindsTold.2.2.2.1, xm_X6_kindsTold.2.2.2.2⟩
theorem xm_X6_endsAsTold : Cond.instanceMethod yX6_endsAsTold ∈ xT ∧ Cond.selects RX6 yX6_endsAsTold yX6_endsAsTold ∈ xT ∧ Cond.initialized RX6 ∈ xT ∧ Cond.code yX6_endsAsTold cX6_endsAsTold 3 (some .boolean) ∈ xT ∧ (yX6_endsAsTold.cls = RX6 ∧ yX6_endsAsTold.cls ≠ "java/lang/invoke/MethodHandle" ∧ yX6_endsAsTold.cls ≠ "java/lang/invoke/VarHandle" ∧ (parseMethodDescriptor yX6_endsAsTold.desc).map (fun d => d.parameters.length) = some 1) := ⟨xT_m3 128 (by decide +kernel) rfl, xT_m0 11 (by decide +kernel) rfl, xT_m1 1 (by decide +kernel) rfl, xT_m3 129 (by decide +kernel) rfl, by decide +kernel⟩
theorem xc_X6_313 : XCV RX6 313 RX6 yX6_endsAsTold cX6_endsAsTold 3 (some .boolean) 1 := ⟨xT_m3 126 (by decide +kernel) rfl, xm_X6_endsAsTold.1, xm_X6_endsAsTold.2.1, xm_X6_endsAsTold.2.2.1, xm_X6_endsAsTold.2.2.2.1, xm_X6_endsAsTold.2.2.2.2⟩
theorem xm_X6_figuresTold : Cond.instanceMethod yX6_figuresTold ∈ xT ∧ Cond.selects RX6 yX6_figuresTold yX6_figuresTold ∈ xT ∧ Cond.initialized RX6 ∈ xT ∧ Cond.code yX6_figuresTold cX6_figuresTold 5 (some .int) ∈ xT ∧ (yX6_figuresTold.cls = RX6 ∧ yX6_figuresTold.cls ≠ "java/lang/invoke/MethodHandle" ∧ yX6_figuresTold.cls ≠ "java/lang/invoke/VarHandle" ∧ (parseMethodDescriptor yX6_figuresTold.desc).map (fun d => d.parameters.length) = some 1) := ⟨xT_m3 132 (by decide +kernel) rfl, xT_m0 12 (by decide +kernel) rfl, xT_m1 1 (by decide +kernel) rfl, xT_m3 133 (by decide +kernel) rfl, by decide +kernel⟩
theorem xc_X6_277 : XCV RX6 277 RX6 yX6_figuresTold cX6_figuresTold 5 (some .int) 1 := ⟨xT_m3 130 (by decide +kernel) rfl, xm_X6_figuresTold.1, xm_X6_figuresTold.2.1, xm_X6_figuresTold.2.2.1, xm_X6_figuresTold.2.2.2.1, xm_X6_figuresTold.2.2.2.2⟩
theorem xm_X6_minutesTold : Cond.instanceMethod yX6_minutesTold ∈ xT ∧ Cond.selects RX6 yX6_minutesTold yX6_minutesTold ∈ xT ∧ Cond.initialized RX6 ∈ xT ∧ Cond.code yX6_minutesTold cX6_minutesTold 6 (some .int) ∈ xT ∧ (yX6_minutesTold.cls = RX6 ∧ yX6_minutesTold.cls ≠ "java/lang/invoke/MethodHandle" ∧ yX6_minutesTold.cls ≠ "java/lang/invoke/VarHandle" ∧ (parseMethodDescriptor yX6_minutesTold.desc).map (fun d => d.parameters.length) = some 2) := ⟨xT_m3 136 (by decide +kernel) rfl, xT_m0 13 (by decide +kernel) rfl, xT_m1 1 (by decide +kernel) rfl, xT_m3 137 (by decide +kernel) rfl, by decide +kernel⟩
theorem xc_X6_280 : XCV RX6 280 RX6 yX6_minutesTold cX6_minutesTold 6 (some .int) 2 := ⟨xT_m3 134 (by decide +kernel) rfl, xm_X6_minutesTold.1, xm_X6_minutesTold.2.1, xm_X6_minutesTold.2.2.1, xm_X6_minutesTold.2.2.2.1, xm_X6_minutesTold.2.2.2.2⟩
theorem xm_X6_longest : Cond.instanceMethod yX6_longest ∈ xT ∧ Cond.selects RX6 yX6_longest yX6_longest ∈ xT ∧ Cond.initialized RX6 ∈ xT ∧ Cond.code yX6_longest cX6_longest 2 (some .int) ∈ xT ∧ (yX6_longest.cls = RX6 ∧ yX6_longest.cls ≠ "java/lang/invoke/MethodHandle" ∧ yX6_longest.cls ≠ "java/lang/invoke/VarHandle" ∧ (parseMethodDescriptor yX6_longest.desc).map (fun d => d.parameters.length) = some 1) := ⟨xT_m3 139 (by decide +kernel) rfl, xT_m3 140 (by decide +kernel) rfl, xT_m1 1 (by decide +kernel) rfl, xT_m3 141 (by decide +kernel) rfl, by decide +kernel⟩
theorem xc_L_138 : XCV RL 138 RX6 yX6_longest cX6_longest 2 (some .int) 1 := ⟨xT_m3 138 (by decide +kernel) rfl, xm_X6_longest.1, xm_X6_longest.2.1, xm_X6_longest.2.2.1, xm_X6_longest.2.2.2.1, xm_X6_longest.2.2.2.2⟩
theorem xm_X2_longestOne : Cond.instanceMethod yX2_longestOne ∈ xT ∧ Cond.selects RX2 yX2_longestOne yX2_longestOne ∈ xT ∧ Cond.initialized RX2 ∈ xT ∧ Cond.code yX2_longestOne cX2_longestOne 4 (some .int) ∈ xT ∧ (yX2_longestOne.cls = RX2 ∧ yX2_longestOne.cls ≠ "java/lang/invoke/MethodHandle" ∧ yX2_longestOne.cls ≠ "java/lang/invoke/VarHandle" ∧ (parseMethodDescriptor yX2_longestOne.desc).map (fun d => d.parameters.length) = some 0) := ⟨xT_m3 143 (by decide +kernel) rfl, xT_m3 144 (by decide +kernel) rfl, xT_m1 2 (by decide +kernel) rfl, xT_m3 145 (by decide +kernel) rfl, by decide +kernel⟩
theorem xc_X6_284 : XCV RX6 284 RX2 yX2_longestOne cX2_longestOne 4 (some .int) 0 := ⟨xT_m3 142 (by decide +kernel) rfl, xm_X2_longestOne.1, xm_X2_longestOne.2.1, xm_X2_longestOne.2.2.1, xm_X2_longestOne.2.2.2.1, xm_X2_longestOne.2.2.2.2⟩
theorem xm_X2_dearest : Cond.instanceMethod yX2_dearest ∈ xT ∧ Cond.selects RX2 yX2_dearest yX2_dearest ∈ xT ∧ Cond.initialized RX2 ∈ xT ∧ Cond.code yX2_dearest cX2_dearest 4 (some .int) ∈ xT ∧ (yX2_dearest.cls = RX2 ∧ yX2_dearest.cls ≠ "java/lang/invoke/MethodHandle" ∧ yX2_dearest.cls ≠ "java/lang/invoke/VarHandle" ∧ (parseMethodDescriptor yX2_dearest.desc).map (fun d => d.parameters.length) = some 0) := ⟨xT_m3 147 (by decide +kernel) rfl, xT_m3 148 (by decide +kernel) rfl, xT_m1 2 (by decide +kernel) rfl, xT_m3 149 (by decide +kernel) rfl, by decide +kernel⟩
theorem xc_X6_287 : XCV RX6 287 RX2 yX2_dearest cX2_dearest 4 (some .int) 0 := ⟨xT_m3 146 (by decide +kernel) rfl, xm_X2_dearest.1, xm_X2_dearest.2.1, xm_X2_dearest.2.2.1, xm_X2_dearest.2.2.2.1, xm_X2_dearest.2.2.2.2⟩
theorem xm_X2_bunched : Cond.instanceMethod yX2_bunched ∈ xT ∧ Cond.selects RX2 yX2_bunched yX2_bunched ∈ xT ∧ Cond.initialized RX2 ∈ xT ∧ Cond.code yX2_bunched cX2_bunched 4 (some .int) ∈ xT ∧ (yX2_bunched.cls = RX2 ∧ yX2_bunched.cls ≠ "java/lang/invoke/MethodHandle" ∧ yX2_bunched.cls ≠ "java/lang/invoke/VarHandle" ∧ (parseMethodDescriptor yX2_bunched.desc).map (fun d => d.parameters.length) = some 0) := ⟨xT_m3 151 (by decide +kernel) rfl, xT_m3 152 (by decide +kernel) rfl, xT_m1 2 (by decide +kernel) rfl, xT_m3 153 (by decide +kernel) rfl, by decide +kernel⟩
theorem xc_X6_290 : XCV RX6 290 RX2 yX2_bunched cX2_bunched 4 (some .int) 0 := ⟨xT_m3 150 (by decide +kernel) rfl, xm_X2_bunched.1, xm_X2_bunched.2.1, xm_X2_bunched.2.2.1, xm_X2_bunched.2.2.2.1, xm_X2_bunched.2.2.2.2⟩
theorem xm_X6_mean : Cond.instanceMethod yX6_mean ∈ xT ∧ Cond.selects RX6 yX6_mean yX6_mean ∈ xT ∧ Cond.initialized RX6 ∈ xT ∧ Cond.code yX6_mean cX6_mean 2 (some .long) ∈ xT ∧ (yX6_mean.cls = RX6 ∧ yX6_mean.cls ≠ "java/lang/invoke/MethodHandle" ∧ yX6_mean.cls ≠ "java/lang/invoke/VarHandle" ∧ (parseMethodDescriptor yX6_mean.desc).map (fun d => d.parameters.length) = some 1) := ⟨xT_m3 155 (by decide +kernel) rfl, xT_m3 156 (by decide +kernel) rfl, xT_m1 1 (by decide +kernel) rfl, xT_m3 157 (by decide +kernel) rfl, by decide +kernel⟩
theorem xc_L_142 : XCV RL 142 RX6 yX6_mean cX6_mean 2 (some .long) 1 := ⟨xT_m3 154 (by decide +kernel) rfl, xm_X6_mean.1, xm_X6_mean.2.1, xm_X6_mean.2.2.1, xm_X6_mean.2.2.2.1, xm_X6_mean.2.2.2.2⟩
theorem xp_X6_293 : XMa RX6 293 Lib.Math.max.name Lib.Math.max.code 2 (some .int) := ⟨xT_m3 158 (by decide +kernel) rfl, xT_m2 87 (by decide +kernel) rfl, xT_m1 10 (by decide +kernel) rfl, xT_m2 88 (by decide +kernel) rfl⟩
theorem xm_X6_early : Cond.instanceMethod yX6_early ∈ xT ∧ Cond.selects RX6 yX6_early yX6_early ∈ xT ∧ Cond.initialized RX6 ∈ xT ∧ Cond.code yX6_early cX6_early 4 (some .int) ∈ xT ∧ (yX6_early.cls = RX6 ∧ yX6_early.cls ≠ "java/lang/invoke/MethodHandle" ∧ yX6_early.cls ≠ "java/lang/invoke/VarHandle" ∧ (parseMethodDescriptor yX6_early.desc).map (fun d => d.parameters.length) = some 0) := ⟨xT_m3 160 (by decide +kernel) rfl, xT_m3 161 (by decide +kernel) rfl, xT_m1 1 (by decide +kernel) rfl, xT_m3 162 (by decide +kernel) rfl, by decide +kernel⟩
theorem xc_L_147 : XCV RL 147 RX6 yX6_early cX6_early 4 (some .int) 0 := ⟨xT_m3 159 (by decide +kernel) rfl, xm_X6_early.1, xm_X6_early.2.1, xm_X6_early.2.2.1, xm_X6_early.2.2.2.1, xm_X6_early.2.2.2.2⟩
theorem xm_X6_worst : Cond.instanceMethod yX6_worst ∈ xT ∧ Cond.selects RX6 yX6_worst yX6_worst ∈ xT ∧ Cond.initialized RX6 ∈ xT ∧ Cond.code yX6_worst cX6_worst 5 (some .int) ∈ xT ∧ (yX6_worst.cls = RX6 ∧ yX6_worst.cls ≠ "java/lang/invoke/MethodHandle" ∧ yX6_worst.cls ≠ "java/lang/invoke/VarHandle" ∧ (parseMethodDescriptor yX6_worst.desc).map (fun d => d.parameters.length) = some 0) := ⟨xT_m3 164 (by decide +kernel) rfl, xT_m3 165 (by decide +kernel) rfl, xT_m1 1 (by decide +kernel) rfl, xT_m3 166 (by decide +kernel) rfl, by decide +kernel⟩
theorem xc_L_151 : XCV RL 151 RX6 yX6_worst cX6_worst 5 (some .int) 0 := ⟨xT_m3 163 (by decide +kernel) rfl, xm_X6_worst.1, xm_X6_worst.2.1, xm_X6_worst.2.2.1, xm_X6_worst.2.2.2.1, xm_X6_worst.2.2.2.2⟩
theorem xm_X6_idle : Cond.instanceMethod yX6_idle ∈ xT ∧ Cond.selects RX6 yX6_idle yX6_idle ∈ xT ∧ Cond.initialized RX6 ∈ xT ∧ Cond.code yX6_idle cX6_idle 5 (some .int) ∈ xT ∧ (yX6_idle.cls = RX6 ∧ yX6_idle.cls ≠ "java/lang/invoke/MethodHandle" ∧ yX6_idle.cls ≠ "java/lang/invoke/VarHandle" ∧ (parseMethodDescriptor yX6_idle.desc).map (fun d => d.parameters.length) = some 0) := ⟨xT_m3 168 (by decide +kernel) rfl, xT_m3 169 (by decide +kernel) rfl, xT_m1 1 (by decide +kernel) rfl, xT_m3 170 (by decide +kernel) rfl, by decide +kernel⟩
theorem xc_L_155 : XCV RL 155 RX6 yX6_idle cX6_idle 5 (some .int) 0 := ⟨xT_m3 167 (by decide +kernel) rfl, xm_X6_idle.1, xm_X6_idle.2.1, xm_X6_idle.2.2.1, xm_X6_idle.2.2.2.1, xm_X6_idle.2.2.2.2⟩
theorem xm_X6_span : Cond.instanceMethod yX6_span ∈ xT ∧ Cond.selects RX6 yX6_span yX6_span ∈ xT ∧ Cond.initialized RX6 ∈ xT ∧ Cond.code yX6_span cX6_span 4 (some .int) ∈ xT ∧ (yX6_span.cls = RX6 ∧ yX6_span.cls ≠ "java/lang/invoke/MethodHandle" ∧ yX6_span.cls ≠ "java/lang/invoke/VarHandle" ∧ (parseMethodDescriptor yX6_span.desc).map (fun d => d.parameters.length) = some 0) := ⟨xT_m3 172 (by decide +kernel) rfl, xT_m3 173 (by decide +kernel) rfl, xT_m1 1 (by decide +kernel) rfl, xT_m3 174 (by decide +kernel) rfl, by decide +kernel⟩
theorem xc_L_159 : XCV RL 159 RX6 yX6_span cX6_span 4 (some .int) 0 := ⟨xT_m3 171 (by decide +kernel) rfl, xm_X6_span.1, xm_X6_span.2.1, xm_X6_span.2.2.1, xm_X6_span.2.2.2.1, xm_X6_span.2.2.2.2⟩
theorem xm_X6_swap : Cond.instanceMethod yX6_swap ∈ xT ∧ Cond.selects RX6 yX6_swap yX6_swap ∈ xT ∧ Cond.initialized RX6 ∈ xT ∧ Cond.code yX6_swap cX6_swap 7 (some .int) ∈ xT ∧ (yX6_swap.cls = RX6 ∧ yX6_swap.cls ≠ "java/lang/invoke/MethodHandle" ∧ yX6_swap.cls ≠ "java/lang/invoke/VarHandle" ∧ (parseMethodDescriptor yX6_swap.desc).map (fun d => d.parameters.length) = some 0) := ⟨xT_m3 176 (by decide +kernel) rfl, xT_m3 177 (by decide +kernel) rfl, xT_m1 1 (by decide +kernel) rfl, xT_m3 178 (by decide +kernel) rfl, by decide +kernel⟩
theorem xc_L_163 : XCV RL 163 RX6 yX6_swap cX6_swap 7 (some .int) 0 := ⟨xT_m3 175 (by decide +kernel) rfl, xm_X6_swap.1, xm_X6_swap.2.1, xm_X6_swap.2.2.1, xm_X6_swap.2.2.2.1, xm_X6_swap.2.2.2.2⟩
theorem xm_X2_changePlaces : Cond.instanceMethod yX2_changePlaces ∈ xT ∧ Cond.selects RX2 yX2_changePlaces yX2_changePlaces ∈ xT ∧ Cond.initialized RX2 ∈ xT ∧ Cond.code yX2_changePlaces cX2_changePlaces 5 none ∈ xT ∧ (yX2_changePlaces.cls = RX2 ∧ yX2_changePlaces.cls ≠ "java/lang/invoke/MethodHandle" ∧ yX2_changePlaces.cls ≠ "java/lang/invoke/VarHandle" ∧ (parseMethodDescriptor yX2_changePlaces.desc).map (fun d => d.parameters.length) = some 2) := ⟨xT_m3 180 (by decide +kernel) rfl, xT_m3 181 (by decide +kernel) rfl, xT_m1 2 (by decide +kernel) rfl, xT_m3 182 (by decide +kernel) rfl, by decide +kernel⟩
theorem xc_X6_296 : XCV RX6 296 RX2 yX2_changePlaces cX2_changePlaces 5 none 2 := ⟨xT_m3 179 (by decide +kernel) rfl, xm_X2_changePlaces.1, xm_X2_changePlaces.2.1, xm_X2_changePlaces.2.2.1, xm_X2_changePlaces.2.2.2.1, xm_X2_changePlaces.2.2.2.2⟩
theorem xm_X6_turned : Cond.instanceMethod yX6_turned ∈ xT ∧ Cond.selects RX6 yX6_turned yX6_turned ∈ xT ∧ Cond.initialized RX6 ∈ xT ∧ Cond.code yX6_turned cX6_turned 3 (some .int) ∈ xT ∧ (yX6_turned.cls = RX6 ∧ yX6_turned.cls ≠ "java/lang/invoke/MethodHandle" ∧ yX6_turned.cls ≠ "java/lang/invoke/VarHandle" ∧ (parseMethodDescriptor yX6_turned.desc).map (fun d => d.parameters.length) = some 0) := ⟨xT_m3 184 (by decide +kernel) rfl, xT_m3 185 (by decide +kernel) rfl, xT_m1 1 (by decide +kernel) rfl, xT_m3 186 (by decide +kernel) rfl, by decide +kernel⟩
theorem xc_L_167 : XCV RL 167 RX6 yX6_turned cX6_turned 3 (some .int) 0 := ⟨xT_m3 183 (by decide +kernel) rfl, xm_X6_turned.1, xm_X6_turned.2.1, xm_X6_turned.2.2.1, xm_X6_turned.2.2.2.1, xm_X6_turned.2.2.2.2⟩
theorem xm_X6_shift : Cond.instanceMethod yX6_shift ∈ xT ∧ Cond.selects RX6 yX6_shift yX6_shift ∈ xT ∧ Cond.initialized RX6 ∈ xT ∧ Cond.code yX6_shift cX6_shift 4 (some .int) ∈ xT ∧ (yX6_shift.cls = RX6 ∧ yX6_shift.cls ≠ "java/lang/invoke/MethodHandle" ∧ yX6_shift.cls ≠ "java/lang/invoke/VarHandle" ∧ (parseMethodDescriptor yX6_shift.desc).map (fun d => d.parameters.length) = some 0) := ⟨xT_m3 188 (by decide +kernel) rfl, xT_m3 189 (by decide +kernel) rfl, xT_m1 1 (by decide +kernel) rfl, xT_m3 190 (by decide +kernel) rfl, by decide +kernel⟩
theorem xc_L_171 : XCV RL 171 RX6 yX6_shift cX6_shift 4 (some .int) 0 := ⟨xT_m3 187 (by decide +kernel) rfl, xm_X6_shift.1, xm_X6_shift.2.1, xm_X6_shift.2.2.1, xm_X6_shift.2.2.2.1, xm_X6_shift.2.2.2.2⟩
theorem xc_X6_300 : XCV RX6 300 RX2 yX2_lateOfWed cX2_lateOfWed 3 (some .int) 0 := ⟨xT_m3 191 (by decide +kernel) rfl, xm_X2_lateOfWed.1, xm_X2_lateOfWed.2.1, xm_X2_lateOfWed.2.2.1, xm_X2_lateOfWed.2.2.2.1, xm_X2_lateOfWed.2.2.2.2⟩
theorem xm_X6_row : Cond.instanceMethod yX6_row ∈ xT ∧ Cond.selects RX6 yX6_row yX6_row ∈ xT ∧ Cond.initialized RX6 ∈ xT ∧ Cond.code yX6_row cX6_row 2 (some .int) ∈ xT ∧ (yX6_row.cls = RX6 ∧ yX6_row.cls ≠ "java/lang/invoke/MethodHandle" ∧ yX6_row.cls ≠ "java/lang/invoke/VarHandle" ∧ (parseMethodDescriptor yX6_row.desc).map (fun d => d.parameters.length) = some 1) := ⟨xT_m3 193 (by decide +kernel) rfl, xT_m3 194 (by decide +kernel) rfl, xT_m1 1 (by decide +kernel) rfl, xT_m3 195 (by decide +kernel) rfl, by decide +kernel⟩
theorem xc_L_175 : XCV RL 175 RX6 yX6_row cX6_row 2 (some .int) 1 := ⟨xT_m3 192 (by decide +kernel) rfl, xm_X6_row.1, xm_X6_row.2.1, xm_X6_row.2.2.1, xm_X6_row.2.2.2.1, xm_X6_row.2.2.2.2⟩
theorem xm_X6_judge : Cond.instanceMethod yX6_judge ∈ xT ∧ Cond.selects RX6 yX6_judge yX6_judge ∈ xT ∧ Cond.initialized RX6 ∈ xT ∧ Cond.code yX6_judge cX6_judge 4 (some .int) ∈ xT ∧ (yX6_judge.cls = RX6 ∧ yX6_judge.cls ≠ "java/lang/invoke/MethodHandle" ∧ yX6_judge.cls ≠ "java/lang/invoke/VarHandle" ∧ (parseMethodDescriptor yX6_judge.desc).map (fun d => d.parameters.length) = some 0) := ⟨xT_m3 197 (by decide +kernel) rfl, xT_m3 198 (by decide +kernel) rfl, xT_m1 1 (by decide +kernel) rfl, xT_m3 199 (by decide +kernel) rfl, by decide +kernel⟩
theorem xc_L_179 : XCV RL 179 RX6 yX6_judge cX6_judge 4 (some .int) 0 := ⟨xT_m3 196 (by decide +kernel) rfl, xm_X6_judge.1, xm_X6_judge.2.1, xm_X6_judge.2.2.1, xm_X6_judge.2.2.2.1, xm_X6_judge.2.2.2.2⟩
theorem xm_X6_clear : Cond.instanceMethod yX6_clear ∈ xT ∧ Cond.selects RX6 yX6_clear yX6_clear ∈ xT ∧ Cond.initialized RX6 ∈ xT ∧ Cond.code yX6_clear cX6_clear 2 (some .int) ∈ xT ∧ (yX6_clear.cls = RX6 ∧ yX6_clear.cls ≠ "java/lang/invoke/MethodHandle" ∧ yX6_clear.cls ≠ "java/lang/invoke/VarHandle" ∧ (parseMethodDescriptor yX6_clear.desc).map (fun d => d.parameters.length) = some 0) := ⟨xT_m3 201 (by decide +kernel) rfl, xT_m3 202 (by decide +kernel) rfl, xT_m1 1 (by decide +kernel) rfl, xT_m3 203 (by decide +kernel) rfl, by decide +kernel⟩
theorem xc_L_183 : XCV RL 183 RX6 yX6_clear cX6_clear 2 (some .int) 0 := ⟨xT_m3 200 (by decide +kernel) rfl, xm_X6_clear.1, xm_X6_clear.2.1, xm_X6_clear.2.2.1, xm_X6_clear.2.2.2.1, xm_X6_clear.2.2.2.2⟩
theorem xm_X6_lots : Cond.instanceMethod yX6_lots ∈ xT ∧ Cond.selects RX6 yX6_lots yX6_lots ∈ xT ∧ Cond.initialized RX6 ∈ xT ∧ Cond.code yX6_lots cX6_lots 9 (some .int) ∈ xT ∧ (yX6_lots.cls = RX6 ∧ yX6_lots.cls ≠ "java/lang/invoke/MethodHandle" ∧ yX6_lots.cls ≠ "java/lang/invoke/VarHandle" ∧ (parseMethodDescriptor yX6_lots.desc).map (fun d => d.parameters.length) = some 3) := ⟨xT_m3 205 (by decide +kernel) rfl, xT_m3 206 (by decide +kernel) rfl, xT_m1 1 (by decide +kernel) rfl, xT_m3 207 (by decide +kernel) rfl, by decide +kernel⟩
theorem xc_L_187 : XCV RL 187 RX6 yX6_lots cX6_lots 9 (some .int) 3 := ⟨xT_m3 204 (by decide +kernel) rfl, xm_X6_lots.1, xm_X6_lots.2.1, xm_X6_lots.2.2.1, xm_X6_lots.2.2.2.1, xm_X6_lots.2.2.2.2⟩
theorem xm_X6_image : Cond.instanceMethod yX6_image ∈ xT ∧ Cond.selects RX6 yX6_image yX6_image ∈ xT ∧ Cond.initialized RX6 ∈ xT ∧ Cond.code yX6_image cX6_image 1 (some .int) ∈ xT ∧ (yX6_image.cls = RX6 ∧ yX6_image.cls ≠ "java/lang/invoke/MethodHandle" ∧ yX6_image.cls ≠ "java/lang/invoke/VarHandle" ∧ (parseMethodDescriptor yX6_image.desc).map (fun d => d.parameters.length) = some 0) := ⟨xT_m3 212 (by decide +kernel) rfl, xT_m3 213 (by decide +kernel) rfl, xT_m1 1 (by decide +kernel) rfl, xT_m3 214 (by decide +kernel) rfl, by decide +kernel⟩
theorem xc_L_191 : XCV RL 191 RX6 yX6_image cX6_image 1 (some .int) 0 := ⟨xT_m3 211 (by decide +kernel) rfl, xm_X6_image.1, xm_X6_image.2.1, xm_X6_image.2.2.1, xm_X6_image.2.2.2.1, xm_X6_image.2.2.2.2⟩
theorem xm_X6_restore : Cond.instanceMethod yX6_restore ∈ xT ∧ Cond.selects RX6 yX6_restore yX6_restore ∈ xT ∧ Cond.initialized RX6 ∈ xT ∧ Cond.code yX6_restore cX6_restore 1 (some .int) ∈ xT ∧ (yX6_restore.cls = RX6 ∧ yX6_restore.cls ≠ "java/lang/invoke/MethodHandle" ∧ yX6_restore.cls ≠ "java/lang/invoke/VarHandle" ∧ (parseMethodDescriptor yX6_restore.desc).map (fun d => d.parameters.length) = some 0) := ⟨xT_m3 216 (by decide +kernel) rfl, xT_m3 217 (by decide +kernel) rfl, xT_m1 1 (by decide +kernel) rfl, xT_m3 218 (by decide +kernel) rfl, by decide +kernel⟩
theorem xc_L_195 : XCV RL 195 RX6 yX6_restore cX6_restore 1 (some .int) 0 := ⟨xT_m3 215 (by decide +kernel) rfl, xm_X6_restore.1, xm_X6_restore.2.1, xm_X6_restore.2.2.1, xm_X6_restore.2.2.2.1, xm_X6_restore.2.2.2.2⟩
theorem xm_X6_count : Cond.instanceMethod yX6_count ∈ xT ∧ Cond.selects RX6 yX6_count yX6_count ∈ xT ∧ Cond.initialized RX6 ∈ xT ∧ Cond.code yX6_count cX6_count 2 (some .int) ∈ xT ∧ (yX6_count.cls = RX6 ∧ yX6_count.cls ≠ "java/lang/invoke/MethodHandle" ∧ yX6_count.cls ≠ "java/lang/invoke/VarHandle" ∧ (parseMethodDescriptor yX6_count.desc).map (fun d => d.parameters.length) = some 1) := ⟨xT_m3 220 (by decide +kernel) rfl, xT_m3 221 (by decide +kernel) rfl, xT_m1 1 (by decide +kernel) rfl, xT_m3 222 (by decide +kernel) rfl, by decide +kernel⟩
theorem xc_L_199 : XCV RL 199 RX6 yX6_count cX6_count 2 (some .int) 1 := ⟨xT_m3 219 (by decide +kernel) rfl, xm_X6_count.1, xm_X6_count.2.1, xm_X6_count.2.2.1, xm_X6_count.2.2.2.1, xm_X6_count.2.2.2.2⟩
theorem xm_X7_init : Cond.instanceMethod yX7_init ∈ xT ∧ Cond.initialized yX7_init.cls ∈ xT ∧ Cond.code yX7_init cX7_init 1 none ∈ xT ∧ yX7_init.name = "<init>" ∧ (yX7_init.cls ≠ "java/lang/invoke/MethodHandle" ∧ yX7_init.cls ≠ "java/lang/invoke/VarHandle" ∧ (parseMethodDescriptor yX7_init.desc).map (fun d => d.parameters.length) = some 0) := ⟨xT_m3 226 (by decide +kernel) rfl, xT_m1 7 (by decide +kernel) rfl, xT_m3 227 (by decide +kernel) rfl, rfl, by decide +kernel⟩
theorem xc_L_12 : Cond.methodLink RL 12 yX7_init ∈ xT := xT_m3 225 (by decide +kernel) rfl
theorem xm_X7_feed : Cond.instanceMethod yX7_feed ∈ xT ∧ Cond.selects RX7 yX7_feed yX7_feed ∈ xT ∧ Cond.initialized RX7 ∈ xT ∧ Cond.code yX7_feed cX7_feed 2 (some .int) ∈ xT ∧ (yX7_feed.cls = RX7 ∧ yX7_feed.cls ≠ "java/lang/invoke/MethodHandle" ∧ yX7_feed.cls ≠ "java/lang/invoke/VarHandle" ∧ (parseMethodDescriptor yX7_feed.desc).map (fun d => d.parameters.length) = some 1) := ⟨xT_m4 108 (by decide +kernel) rfl, xT_m4 109 (by decide +kernel) rfl, xT_m1 7 (by decide +kernel) rfl, xT_m4 110 (by decide +kernel) rfl, by decide +kernel⟩
theorem xc_L_17 : XCV RL 17 RX7 yX7_feed cX7_feed 2 (some .int) 1 := ⟨xT_m4 107 (by decide +kernel) rfl, xm_X7_feed.1, xm_X7_feed.2.1, xm_X7_feed.2.2.1, xm_X7_feed.2.2.2.1, xm_X7_feed.2.2.2.2⟩
theorem xm_X7_refuse : Cond.instanceMethod yX7_refuse ∈ xT ∧ Cond.selects RX7 yX7_refuse yX7_refuse ∈ xT ∧ Cond.initialized RX7 ∈ xT ∧ Cond.code yX7_refuse cX7_refuse 2 (some .int) ∈ xT ∧ (yX7_refuse.cls = RX7 ∧ yX7_refuse.cls ≠ "java/lang/invoke/MethodHandle" ∧ yX7_refuse.cls ≠ "java/lang/invoke/VarHandle" ∧ (parseMethodDescriptor yX7_refuse.desc).map (fun d => d.parameters.length) = some 1) := ⟨xT_m4 113 (by decide +kernel) rfl, xT_m0 14 (by decide +kernel) rfl, xT_m1 7 (by decide +kernel) rfl, xT_m4 114 (by decide +kernel) rfl, by decide +kernel⟩
theorem xc_X7_138 : XCV RX7 138 RX7 yX7_refuse cX7_refuse 2 (some .int) 1 := ⟨xT_m4 111 (by decide +kernel) rfl, xm_X7_refuse.1, xm_X7_refuse.2.1, xm_X7_refuse.2.2.1, xm_X7_refuse.2.2.2.1, xm_X7_refuse.2.2.2.2⟩
theorem xm_X7_hall : Cond.instanceMethod yX7_hall ∈ xT ∧ Cond.selects RX7 yX7_hall yX7_hall ∈ xT ∧ Cond.initialized RX7 ∈ xT ∧ Cond.code yX7_hall cX7_hall 2 (some .int) ∈ xT ∧ (yX7_hall.cls = RX7 ∧ yX7_hall.cls ≠ "java/lang/invoke/MethodHandle" ∧ yX7_hall.cls ≠ "java/lang/invoke/VarHandle" ∧ (parseMethodDescriptor yX7_hall.desc).map (fun d => d.parameters.length) = some 0) := ⟨xT_m4 116 (by decide +kernel) rfl, xT_m4 117 (by decide +kernel) rfl, xT_m1 7 (by decide +kernel) rfl, xT_m4 118 (by decide +kernel) rfl, by decide +kernel⟩
theorem xc_L_22 : XCV RL 22 RX7 yX7_hall cX7_hall 2 (some .int) 0 := ⟨xT_m4 115 (by decide +kernel) rfl, xm_X7_hall.1, xm_X7_hall.2.1, xm_X7_hall.2.2.1, xm_X7_hall.2.2.2.1, xm_X7_hall.2.2.2.2⟩
theorem xm_X7_readStatement : Cond.instanceMethod yX7_readStatement ∈ xT ∧ Cond.selects RX7 yX7_readStatement yX7_readStatement ∈ xT ∧ Cond.initialized RX7 ∈ xT ∧ Cond.code yX7_readStatement cX7_readStatement 3 none ∈ xT ∧ (yX7_readStatement.cls = RX7 ∧ yX7_readStatement.cls ≠ "java/lang/invoke/MethodHandle" ∧ yX7_readStatement.cls ≠ "java/lang/invoke/VarHandle" ∧ (parseMethodDescriptor yX7_readStatement.desc).map (fun d => d.parameters.length) = some 0) := ⟨xT_m4 121 (by decide +kernel) rfl, xT_m0 15 (by decide +kernel) rfl, xT_m1 7 (by decide +kernel) rfl, xT_m4 122 (by decide +kernel) rfl, by decide +kernel⟩
theorem xc_X7_191 : XCV RX7 191 RX7 yX7_readStatement cX7_readStatement 3 none 0 := ⟨xT_m4 119 (by decide +kernel) rfl, xm_X7_readStatement.1, xm_X7_readStatement.2.1, xm_X7_readStatement.2.2.1, xm_X7_readStatement.2.2.2.1, xm_X7_readStatement.2.2.2.2⟩
theorem xm_X7_here : Cond.instanceMethod yX7_here ∈ xT ∧ Cond.selects RX7 yX7_here yX7_here ∈ xT ∧ Cond.initialized RX7 ∈ xT ∧ Cond.code yX7_here cX7_here 1 (some .int) ∈ xT ∧ (yX7_here.cls = RX7 ∧ yX7_here.cls ≠ "java/lang/invoke/MethodHandle" ∧ yX7_here.cls ≠ "java/lang/invoke/VarHandle" ∧ (parseMethodDescriptor yX7_here.desc).map (fun d => d.parameters.length) = some 0) := ⟨xT_m4 125 (by decide +kernel) rfl, xT_m0 16 (by decide +kernel) rfl, xT_m1 7 (by decide +kernel) rfl, xT_m4 126 (by decide +kernel) rfl, by decide +kernel⟩
theorem xc_X7_151 : XCV RX7 151 RX7 yX7_here cX7_here 1 (some .int) 0 := ⟨xT_m4 123 (by decide +kernel) rfl, xm_X7_here.1, xm_X7_here.2.1, xm_X7_here.2.2.1, xm_X7_here.2.2.2.1, xm_X7_here.2.2.2.2⟩
theorem xm_X7_isLetter : Cond.static yX7_isLetter ∈ xT ∧ Cond.initialized yX7_isLetter.cls ∈ xT ∧ Cond.code yX7_isLetter cX7_isLetter 1 (some .boolean) ∈ xT ∧ (yX7_isLetter.cls ≠ "java/lang/invoke/MethodHandle" ∧ yX7_isLetter.cls ≠ "java/lang/invoke/VarHandle" ∧ (parseMethodDescriptor yX7_isLetter.desc).map (fun d => d.parameters.length) = some 1) := ⟨xT_m4 128 (by decide +kernel) rfl, xT_m1 7 (by decide +kernel) rfl, xT_m4 129 (by decide +kernel) rfl, by decide +kernel⟩
theorem xc_X7_161 : XCS RX7 161 yX7_isLetter cX7_isLetter 1 (some .boolean) 1 := ⟨xT_m4 127 (by decide +kernel) rfl, xm_X7_isLetter.1, xm_X7_isLetter.2.1, xm_X7_isLetter.2.2.1, xm_X7_isLetter.2.2.2⟩
theorem xm_X7_readDigits : Cond.instanceMethod yX7_readDigits ∈ xT ∧ Cond.selects RX7 yX7_readDigits yX7_readDigits ∈ xT ∧ Cond.initialized RX7 ∈ xT ∧ Cond.code yX7_readDigits cX7_readDigits 4 (some .int) ∈ xT ∧ (yX7_readDigits.cls = RX7 ∧ yX7_readDigits.cls ≠ "java/lang/invoke/MethodHandle" ∧ yX7_readDigits.cls ≠ "java/lang/invoke/VarHandle" ∧ (parseMethodDescriptor yX7_readDigits.desc).map (fun d => d.parameters.length) = some 1) := ⟨xT_m4 132 (by decide +kernel) rfl, xT_m0 17 (by decide +kernel) rfl, xT_m1 7 (by decide +kernel) rfl, xT_m4 133 (by decide +kernel) rfl, by decide +kernel⟩
theorem xc_X7_165 : XCV RX7 165 RX7 yX7_readDigits cX7_readDigits 4 (some .int) 1 := ⟨xT_m4 130 (by decide +kernel) rfl, xm_X7_readDigits.1, xm_X7_readDigits.2.1, xm_X7_readDigits.2.2.1, xm_X7_readDigits.2.2.2.1, xm_X7_readDigits.2.2.2.2⟩
theorem xm_X7_in : Cond.static yX7_in ∈ xT ∧ Cond.initialized yX7_in.cls ∈ xT ∧ Cond.code yX7_in cX7_in 6 (some .boolean) ∈ xT ∧ (yX7_in.cls ≠ "java/lang/invoke/MethodHandle" ∧ yX7_in.cls ≠ "java/lang/invoke/VarHandle" ∧ (parseMethodDescriptor yX7_in.desc).map (fun d => d.parameters.length) = some 3) := ⟨xT_m4 137 (by decide +kernel) rfl, xT_m1 7 (by decide +kernel) rfl, xT_m4 138 (by decide +kernel) rfl, by decide +kernel⟩
theorem xc_X7_86 : XCS RX7 86 yX7_in cX7_in 6 (some .boolean) 3 := ⟨xT_m4 136 (by decide +kernel) rfl, xm_X7_in.1, xm_X7_in.2.1, xm_X7_in.2.2.1, xm_X7_in.2.2.2⟩
theorem xm_X7_think : Cond.instanceMethod yX7_think ∈ xT ∧ Cond.selects RX7 yX7_think yX7_think ∈ xT ∧ Cond.initialized RX7 ∈ xT ∧ Cond.code yX7_think cX7_think 1 none ∈ xT ∧ (yX7_think.cls = RX7 ∧ yX7_think.cls ≠ "java/lang/invoke/MethodHandle" ∧ yX7_think.cls ≠ "java/lang/invoke/VarHandle" ∧ (parseMethodDescriptor yX7_think.desc).map (fun d => d.parameters.length) = some 0) := ⟨xT_m4 141 (by decide +kernel) rfl, xT_m0 18 (by decide +kernel) rfl, xT_m1 7 (by decide +kernel) rfl, xT_m4 142 (by decide +kernel) rfl, by decide +kernel⟩
theorem xc_X7_194 : XCV RX7 194 RX7 yX7_think cX7_think 1 none 0 := ⟨xT_m4 139 (by decide +kernel) rfl, xm_X7_think.1, xm_X7_think.2.1, xm_X7_think.2.2.1, xm_X7_think.2.2.2.1, xm_X7_think.2.2.2.2⟩
theorem xm_X7_carryAll : Cond.instanceMethod yX7_carryAll ∈ xT ∧ Cond.selects RX7 yX7_carryAll yX7_carryAll ∈ xT ∧ Cond.initialized RX7 ∈ xT ∧ Cond.code yX7_carryAll cX7_carryAll 4 none ∈ xT ∧ (yX7_carryAll.cls = RX7 ∧ yX7_carryAll.cls ≠ "java/lang/invoke/MethodHandle" ∧ yX7_carryAll.cls ≠ "java/lang/invoke/VarHandle" ∧ (parseMethodDescriptor yX7_carryAll.desc).map (fun d => d.parameters.length) = some 2) := ⟨xT_m4 145 (by decide +kernel) rfl, xT_m0 19 (by decide +kernel) rfl, xT_m1 7 (by decide +kernel) rfl, xT_m4 146 (by decide +kernel) rfl, by decide +kernel⟩
theorem xc_X7_218 : XCV RX7 218 RX7 yX7_carryAll cX7_carryAll 4 none 2 := ⟨xT_m4 143 (by decide +kernel) rfl, xm_X7_carryAll.1, xm_X7_carryAll.2.1, xm_X7_carryAll.2.2.1, xm_X7_carryAll.2.2.2.1, xm_X7_carryAll.2.2.2.2⟩
theorem xm_X7_carry : Cond.instanceMethod yX7_carry ∈ xT ∧ Cond.selects RX7 yX7_carry yX7_carry ∈ xT ∧ Cond.initialized RX7 ∈ xT ∧ Cond.code yX7_carry cX7_carry 2 (some .int) ∈ xT ∧ (yX7_carry.cls = RX7 ∧ yX7_carry.cls ≠ "java/lang/invoke/MethodHandle" ∧ yX7_carry.cls ≠ "java/lang/invoke/VarHandle" ∧ (parseMethodDescriptor yX7_carry.desc).map (fun d => d.parameters.length) = some 1) := ⟨xT_m4 149 (by decide +kernel) rfl, xT_m0 20 (by decide +kernel) rfl, xT_m1 7 (by decide +kernel) rfl, xT_m4 150 (by decide +kernel) rfl, by decide +kernel⟩
theorem xc_X7_215 : XCV RX7 215 RX7 yX7_carry cX7_carry 2 (some .int) 1 := ⟨xT_m4 147 (by decide +kernel) rfl, xm_X7_carry.1, xm_X7_carry.2.1, xm_X7_carry.2.2.1, xm_X7_carry.2.2.2.1, xm_X7_carry.2.2.2.2⟩
theorem xm_X7_comesTold : Cond.instanceMethod yX7_comesTold ∈ xT ∧ Cond.selects RX7 yX7_comesTold yX7_comesTold ∈ xT ∧ Cond.initialized RX7 ∈ xT ∧ Cond.code yX7_comesTold cX7_comesTold 4 (some .boolean) ∈ xT ∧ (yX7_comesTold.cls = RX7 ∧ yX7_comesTold.cls ≠ "java/lang/invoke/MethodHandle" ∧ yX7_comesTold.cls ≠ "java/lang/invoke/VarHandle" ∧ (parseMethodDescriptor yX7_comesTold.desc).map (fun d => d.parameters.length) = some 1) := ⟨xT_m4 153 (by decide +kernel) rfl, xT_m0 21 (by decide +kernel) rfl, xT_m1 7 (by decide +kernel) rfl, xT_m4 154 (by decide +kernel) rfl, by decide +kernel⟩
theorem xc_X7_197 : XCV RX7 197 RX7 yX7_comesTold cX7_comesTold 4 (some .boolean) 1 := ⟨xT_m4 151 (by decide +kernel) rfl, xm_X7_comesTold.1, xm_X7_comesTold.2.1, xm_X7_comesTold.2.2.1, xm_X7_comesTold.2.2.2.1, xm_X7_comesTold.2.2.2.2⟩
theorem xm_X7_coupleComes : Cond.instanceMethod yX7_coupleComes ∈ xT ∧ Cond.selects RX7 yX7_coupleComes yX7_coupleComes ∈ xT ∧ Cond.initialized RX7 ∈ xT ∧ Cond.code yX7_coupleComes cX7_coupleComes 5 (some .boolean) ∈ xT ∧ (yX7_coupleComes.cls = RX7 ∧ yX7_coupleComes.cls ≠ "java/lang/invoke/MethodHandle" ∧ yX7_coupleComes.cls ≠ "java/lang/invoke/VarHandle" ∧ (parseMethodDescriptor yX7_coupleComes.desc).map (fun d => d.parameters.length) = some 3) := ⟨xT_m4 157 (by decide +kernel) rfl, xT_m0 22 (by decide +kernel) rfl, xT_m1 7 (by decide +kernel) rfl, xT_m4 158 (by decide +kernel) rfl, by decide +kernel⟩
theorem xc_X7_170 : XCV RX7 170 RX7 yX7_coupleComes cX7_coupleComes 5 (some .boolean) 3 := ⟨xT_m4 155 (by decide +kernel) rfl, xm_X7_coupleComes.1, xm_X7_coupleComes.2.1, xm_X7_coupleComes.2.2.1, xm_X7_coupleComes.2.2.2.1, xm_X7_coupleComes.2.2.2.2⟩
theorem xm_X7_roomsBecome : Cond.instanceMethod yX7_roomsBecome ∈ xT ∧ Cond.selects RX7 yX7_roomsBecome yX7_roomsBecome ∈ xT ∧ Cond.initialized RX7 ∈ xT ∧ Cond.code yX7_roomsBecome cX7_roomsBecome 2 none ∈ xT ∧ (yX7_roomsBecome.cls = RX7 ∧ yX7_roomsBecome.cls ≠ "java/lang/invoke/MethodHandle" ∧ yX7_roomsBecome.cls ≠ "java/lang/invoke/VarHandle" ∧ (parseMethodDescriptor yX7_roomsBecome.desc).map (fun d => d.parameters.length) = some 1) := ⟨xT_m4 162 (by decide +kernel) rfl, xT_m0 23 (by decide +kernel) rfl, xT_m1 7 (by decide +kernel) rfl, xT_m4 163 (by decide +kernel) rfl, by decide +kernel⟩
theorem xc_X7_174 : XCV RX7 174 RX7 yX7_roomsBecome cX7_roomsBecome 2 none 1 := ⟨xT_m4 160 (by decide +kernel) rfl, xm_X7_roomsBecome.1, xm_X7_roomsBecome.2.1, xm_X7_roomsBecome.2.2.1, xm_X7_roomsBecome.2.2.2.1, xm_X7_roomsBecome.2.2.2.2⟩
theorem xm_X7_isCouple : Cond.instanceMethod yX7_isCouple ∈ xT ∧ Cond.selects RX7 yX7_isCouple yX7_isCouple ∈ xT ∧ Cond.initialized RX7 ∈ xT ∧ Cond.code yX7_isCouple cX7_isCouple 2 (some .boolean) ∈ xT ∧ (yX7_isCouple.cls = RX7 ∧ yX7_isCouple.cls ≠ "java/lang/invoke/MethodHandle" ∧ yX7_isCouple.cls ≠ "java/lang/invoke/VarHandle" ∧ (parseMethodDescriptor yX7_isCouple.desc).map (fun d => d.parameters.length) = some 1) := ⟨xT_m4 166 (by decide +kernel) rfl, xT_m0 24 (by decide +kernel) rfl, xT_m1 7 (by decide +kernel) rfl, xT_m4 167 (by decide +kernel) rfl, by decide +kernel⟩
theorem xc_X7_177 : XCV RX7 177 RX7 yX7_isCouple cX7_isCouple 2 (some .boolean) 1 := ⟨xT_m4 164 (by decide +kernel) rfl, xm_X7_isCouple.1, xm_X7_isCouple.2.1, xm_X7_isCouple.2.2.1, xm_X7_isCouple.2.2.2.1, xm_X7_isCouple.2.2.2.2⟩
theorem xm_X7_putFirst : Cond.instanceMethod yX7_putFirst ∈ xT ∧ Cond.selects RX7 yX7_putFirst yX7_putFirst ∈ xT ∧ Cond.initialized RX7 ∈ xT ∧ Cond.code yX7_putFirst cX7_putFirst 3 none ∈ xT ∧ (yX7_putFirst.cls = RX7 ∧ yX7_putFirst.cls ≠ "java/lang/invoke/MethodHandle" ∧ yX7_putFirst.cls ≠ "java/lang/invoke/VarHandle" ∧ (parseMethodDescriptor yX7_putFirst.desc).map (fun d => d.parameters.length) = some 1) := ⟨xT_m4 170 (by decide +kernel) rfl, xT_m0 25 (by decide +kernel) rfl, xT_m1 7 (by decide +kernel) rfl, xT_m4 171 (by decide +kernel) rfl, by decide +kernel⟩
theorem xc_X7_180 : XCV RX7 180 RX7 yX7_putFirst cX7_putFirst 3 none 1 := ⟨xT_m4 168 (by decide +kernel) rfl, xm_X7_putFirst.1, xm_X7_putFirst.2.1, xm_X7_putFirst.2.2.1, xm_X7_putFirst.2.2.2.1, xm_X7_putFirst.2.2.2.2⟩
theorem xm_X7_placeOf : Cond.instanceMethod yX7_placeOf ∈ xT ∧ Cond.selects RX7 yX7_placeOf yX7_placeOf ∈ xT ∧ Cond.initialized RX7 ∈ xT ∧ Cond.code yX7_placeOf cX7_placeOf 4 (some .int) ∈ xT ∧ (yX7_placeOf.cls = RX7 ∧ yX7_placeOf.cls ≠ "java/lang/invoke/MethodHandle" ∧ yX7_placeOf.cls ≠ "java/lang/invoke/VarHandle" ∧ (parseMethodDescriptor yX7_placeOf.desc).map (fun d => d.parameters.length) = some 1) := ⟨xT_m4 174 (by decide +kernel) rfl, xT_m0 26 (by decide +kernel) rfl, xT_m1 7 (by decide +kernel) rfl, xT_m4 175 (by decide +kernel) rfl, by decide +kernel⟩
theorem xc_X7_135 : XCV RX7 135 RX7 yX7_placeOf cX7_placeOf 4 (some .int) 1 := ⟨xT_m4 172 (by decide +kernel) rfl, xm_X7_placeOf.1, xm_X7_placeOf.2.1, xm_X7_placeOf.2.2.1, xm_X7_placeOf.2.2.2.1, xm_X7_placeOf.2.2.2.2⟩
theorem xm_X7_wedsCome : Cond.instanceMethod yX7_wedsCome ∈ xT ∧ Cond.selects RX7 yX7_wedsCome yX7_wedsCome ∈ xT ∧ Cond.initialized RX7 ∈ xT ∧ Cond.code yX7_wedsCome cX7_wedsCome 4 (some .boolean) ∈ xT ∧ (yX7_wedsCome.cls = RX7 ∧ yX7_wedsCome.cls ≠ "java/lang/invoke/MethodHandle" ∧ yX7_wedsCome.cls ≠ "java/lang/invoke/VarHandle" ∧ (parseMethodDescriptor yX7_wedsCome.desc).map (fun d => d.parameters.length) = some 1) := ⟨xT_m4 178 (by decide +kernel) rfl, xT_m0 27 (by decide +kernel) rfl, xT_m1 7 (by decide +kernel) rfl, xT_m4 179 (by decide +kernel) rfl, by decide +kernel⟩
theorem xc_X7_183 : XCV RX7 183 RX7 yX7_wedsCome cX7_wedsCome 4 (some .boolean) 1 := ⟨xT_m4 176 (by decide +kernel) rfl, xm_X7_wedsCome.1, xm_X7_wedsCome.2.1, xm_X7_wedsCome.2.2.1, xm_X7_wedsCome.2.2.2.1, xm_X7_wedsCome.2.2.2.2⟩
theorem xm_X7_wedOne : Cond.instanceMethod yX7_wedOne ∈ xT ∧ Cond.selects RX7 yX7_wedOne yX7_wedOne ∈ xT ∧ Cond.initialized RX7 ∈ xT ∧ Cond.code yX7_wedOne cX7_wedOne 6 none ∈ xT ∧ (yX7_wedOne.cls = RX7 ∧ yX7_wedOne.cls ≠ "java/lang/invoke/MethodHandle" ∧ yX7_wedOne.cls ≠ "java/lang/invoke/VarHandle" ∧ (parseMethodDescriptor yX7_wedOne.desc).map (fun d => d.parameters.length) = some 1) := ⟨xT_m4 183 (by decide +kernel) rfl, xT_m0 28 (by decide +kernel) rfl, xT_m1 7 (by decide +kernel) rfl, xT_m4 184 (by decide +kernel) rfl, by decide +kernel⟩
theorem xc_X7_117 : XCV RX7 117 RX7 yX7_wedOne cX7_wedOne 6 none 1 := ⟨xT_m4 181 (by decide +kernel) rfl, xm_X7_wedOne.1, xm_X7_wedOne.2.1, xm_X7_wedOne.2.2.1, xm_X7_wedOne.2.2.2.1, xm_X7_wedOne.2.2.2.2⟩
theorem xm_X7_firstOff : Cond.instanceMethod yX7_firstOff ∈ xT ∧ Cond.selects RX7 yX7_firstOff yX7_firstOff ∈ xT ∧ Cond.initialized RX7 ∈ xT ∧ Cond.code yX7_firstOff cX7_firstOff 3 (some .int) ∈ xT ∧ (yX7_firstOff.cls = RX7 ∧ yX7_firstOff.cls ≠ "java/lang/invoke/MethodHandle" ∧ yX7_firstOff.cls ≠ "java/lang/invoke/VarHandle" ∧ (parseMethodDescriptor yX7_firstOff.desc).map (fun d => d.parameters.length) = some 0) := ⟨xT_m4 187 (by decide +kernel) rfl, xT_m0 29 (by decide +kernel) rfl, xT_m1 7 (by decide +kernel) rfl, xT_m4 188 (by decide +kernel) rfl, by decide +kernel⟩
theorem xc_X7_103 : XCV RX7 103 RX7 yX7_firstOff cX7_firstOff 3 (some .int) 0 := ⟨xT_m4 185 (by decide +kernel) rfl, xm_X7_firstOff.1, xm_X7_firstOff.2.1, xm_X7_firstOff.2.2.1, xm_X7_firstOff.2.2.2.1, xm_X7_firstOff.2.2.2.2⟩
theorem xm_X7_readyOf : Cond.instanceMethod yX7_readyOf ∈ xT ∧ Cond.selects RX7 yX7_readyOf yX7_readyOf ∈ xT ∧ Cond.initialized RX7 ∈ xT ∧ Cond.code yX7_readyOf cX7_readyOf 3 (some .int) ∈ xT ∧ (yX7_readyOf.cls = RX7 ∧ yX7_readyOf.cls ≠ "java/lang/invoke/MethodHandle" ∧ yX7_readyOf.cls ≠ "java/lang/invoke/VarHandle" ∧ (parseMethodDescriptor yX7_readyOf.desc).map (fun d => d.parameters.length) = some 1) := ⟨xT_m4 191 (by decide +kernel) rfl, xT_m0 30 (by decide +kernel) rfl, xT_m1 7 (by decide +kernel) rfl, xT_m4 192 (by decide +kernel) rfl, by decide +kernel⟩
theorem xc_X7_107 : XCV RX7 107 RX7 yX7_readyOf cX7_readyOf 3 (some .int) 1 := ⟨xT_m4 189 (by decide +kernel) rfl, xm_X7_readyOf.1, xm_X7_readyOf.2.1, xm_X7_readyOf.2.2.1, xm_X7_readyOf.2.2.2.1, xm_X7_readyOf.2.2.2.2⟩
theorem xm_X7_most : Cond.static yX7_most ∈ xT ∧ Cond.initialized yX7_most.cls ∈ xT ∧ Cond.code yX7_most cX7_most 2 (some .int) ∈ xT ∧ (yX7_most.cls ≠ "java/lang/invoke/MethodHandle" ∧ yX7_most.cls ≠ "java/lang/invoke/VarHandle" ∧ (parseMethodDescriptor yX7_most.desc).map (fun d => d.parameters.length) = some 2) := ⟨xT_m4 194 (by decide +kernel) rfl, xT_m1 7 (by decide +kernel) rfl, xT_m4 195 (by decide +kernel) rfl, by decide +kernel⟩
theorem xc_X7_90 : XCS RX7 90 yX7_most cX7_most 2 (some .int) 2 := ⟨xT_m4 193 (by decide +kernel) rfl, xm_X7_most.1, xm_X7_most.2.1, xm_X7_most.2.2.1, xm_X7_most.2.2.2⟩
theorem xm_X7_lastsBy : Cond.static yX7_lastsBy ∈ xT ∧ Cond.initialized yX7_lastsBy.cls ∈ xT ∧ Cond.code yX7_lastsBy cX7_lastsBy 2 (some .int) ∈ xT ∧ (yX7_lastsBy.cls ≠ "java/lang/invoke/MethodHandle" ∧ yX7_lastsBy.cls ≠ "java/lang/invoke/VarHandle" ∧ (parseMethodDescriptor yX7_lastsBy.desc).map (fun d => d.parameters.length) = some 2) := ⟨xT_m4 197 (by decide +kernel) rfl, xT_m1 7 (by decide +kernel) rfl, xT_m4 198 (by decide +kernel) rfl, by decide +kernel⟩
theorem xc_X7_111 : XCS RX7 111 yX7_lastsBy cX7_lastsBy 2 (some .int) 2 := ⟨xT_m4 196 (by decide +kernel) rfl, xm_X7_lastsBy.1, xm_X7_lastsBy.2.1, xm_X7_lastsBy.2.2.1, xm_X7_lastsBy.2.2.2⟩
theorem xm_X7_least : Cond.static yX7_least ∈ xT ∧ Cond.initialized yX7_least.cls ∈ xT ∧ Cond.code yX7_least cX7_least 2 (some .int) ∈ xT ∧ (yX7_least.cls ≠ "java/lang/invoke/MethodHandle" ∧ yX7_least.cls ≠ "java/lang/invoke/VarHandle" ∧ (parseMethodDescriptor yX7_least.desc).map (fun d => d.parameters.length) = some 2) := ⟨xT_m4 200 (by decide +kernel) rfl, xT_m1 7 (by decide +kernel) rfl, xT_m4 201 (by decide +kernel) rfl, by decide +kernel⟩
theorem xc_X7_97 : XCS RX7 97 yX7_least cX7_least 2 (some .int) 2 := ⟨xT_m4 199 (by decide +kernel) rfl, xm_X7_least.1, xm_X7_least.2.1, xm_X7_least.2.2.1, xm_X7_least.2.2.2⟩
theorem xm_X7_restFor : Cond.instanceMethod yX7_restFor ∈ xT ∧ Cond.selects RX7 yX7_restFor yX7_restFor ∈ xT ∧ Cond.initialized RX7 ∈ xT ∧ Cond.code yX7_restFor cX7_restFor 3 none ∈ xT ∧ (yX7_restFor.cls = RX7 ∧ yX7_restFor.cls ≠ "java/lang/invoke/MethodHandle" ∧ yX7_restFor.cls ≠ "java/lang/invoke/VarHandle" ∧ (parseMethodDescriptor yX7_restFor.desc).map (fun d => d.parameters.length) = some 1) := ⟨xT_m4 205 (by decide +kernel) rfl, xT_m0 31 (by decide +kernel) rfl, xT_m1 7 (by decide +kernel) rfl, xT_m4 206 (by decide +kernel) rfl, by decide +kernel⟩
theorem xc_X7_188 : XCV RX7 188 RX7 yX7_restFor cX7_restFor 3 none 1 := ⟨xT_m4 203 (by decide +kernel) rfl, xm_X7_restFor.1, xm_X7_restFor.2.1, xm_X7_restFor.2.2.1, xm_X7_restFor.2.2.2.1, xm_X7_restFor.2.2.2.2⟩
theorem xm_X7_again : Cond.instanceMethod yX7_again ∈ xT ∧ Cond.selects RX7 yX7_again yX7_again ∈ xT ∧ Cond.initialized RX7 ∈ xT ∧ Cond.code yX7_again cX7_again 1 none ∈ xT ∧ (yX7_again.cls = RX7 ∧ yX7_again.cls ≠ "java/lang/invoke/MethodHandle" ∧ yX7_again.cls ≠ "java/lang/invoke/VarHandle" ∧ (parseMethodDescriptor yX7_again.desc).map (fun d => d.parameters.length) = some 0) := ⟨xT_m4 209 (by decide +kernel) rfl, xT_m0 32 (by decide +kernel) rfl, xT_m1 7 (by decide +kernel) rfl, xT_m4 210 (by decide +kernel) rfl, by decide +kernel⟩
theorem xc_X7_200 : XCV RX7 200 RX7 yX7_again cX7_again 1 none 0 := ⟨xT_m4 207 (by decide +kernel) rfl, xm_X7_again.1, xm_X7_again.2.1, xm_X7_again.2.2.1, xm_X7_again.2.2.2.1, xm_X7_again.2.2.2.2⟩
theorem xm_X7_image : Cond.instanceMethod yX7_image ∈ xT ∧ Cond.selects RX7 yX7_image yX7_image ∈ xT ∧ Cond.initialized RX7 ∈ xT ∧ Cond.code yX7_image cX7_image 1 (some .int) ∈ xT ∧ (yX7_image.cls = RX7 ∧ yX7_image.cls ≠ "java/lang/invoke/MethodHandle" ∧ yX7_image.cls ≠ "java/lang/invoke/VarHandle" ∧ (parseMethodDescriptor yX7_image.desc).map (fun d => d.parameters.length) = some 0) := ⟨xT_m4 212 (by decide +kernel) rfl, xT_m4 213 (by decide +kernel) rfl, xT_m1 7 (by decide +kernel) rfl, xT_m4 214 (by decide +kernel) rfl, by decide +kernel⟩
theorem xc_L_194 : XCV RL 194 RX7 yX7_image cX7_image 1 (some .int) 0 := ⟨xT_m4 211 (by decide +kernel) rfl, xm_X7_image.1, xm_X7_image.2.1, xm_X7_image.2.2.1, xm_X7_image.2.2.2.1, xm_X7_image.2.2.2.2⟩
theorem xm_X7_restore : Cond.instanceMethod yX7_restore ∈ xT ∧ Cond.selects RX7 yX7_restore yX7_restore ∈ xT ∧ Cond.initialized RX7 ∈ xT ∧ Cond.code yX7_restore cX7_restore 1 (some .int) ∈ xT ∧ (yX7_restore.cls = RX7 ∧ yX7_restore.cls ≠ "java/lang/invoke/MethodHandle" ∧ yX7_restore.cls ≠ "java/lang/invoke/VarHandle" ∧ (parseMethodDescriptor yX7_restore.desc).map (fun d => d.parameters.length) = some 0) := ⟨xT_m4 216 (by decide +kernel) rfl, xT_m4 217 (by decide +kernel) rfl, xT_m1 7 (by decide +kernel) rfl, xT_m4 218 (by decide +kernel) rfl, by decide +kernel⟩
theorem xc_L_198 : XCV RL 198 RX7 yX7_restore cX7_restore 1 (some .int) 0 := ⟨xT_m4 215 (by decide +kernel) rfl, xm_X7_restore.1, xm_X7_restore.2.1, xm_X7_restore.2.2.1, xm_X7_restore.2.2.2.1, xm_X7_restore.2.2.2.2⟩
theorem xm_X7_back : Cond.instanceMethod yX7_back ∈ xT ∧ Cond.selects RX7 yX7_back yX7_back ∈ xT ∧ Cond.initialized RX7 ∈ xT ∧ Cond.code yX7_back cX7_back 2 (some .int) ∈ xT ∧ (yX7_back.cls = RX7 ∧ yX7_back.cls ≠ "java/lang/invoke/MethodHandle" ∧ yX7_back.cls ≠ "java/lang/invoke/VarHandle" ∧ (parseMethodDescriptor yX7_back.desc).map (fun d => d.parameters.length) = some 0) := ⟨xT_m4 220 (by decide +kernel) rfl, xT_m4 221 (by decide +kernel) rfl, xT_m1 7 (by decide +kernel) rfl, xT_m4 222 (by decide +kernel) rfl, by decide +kernel⟩
theorem xc_L_64 : XCV RL 64 RX7 yX7_back cX7_back 2 (some .int) 0 := ⟨xT_m4 219 (by decide +kernel) rfl, xm_X7_back.1, xm_X7_back.2.1, xm_X7_back.2.2.1, xm_X7_back.2.2.2.1, xm_X7_back.2.2.2.2⟩
theorem xm_X7_coupleOf : Cond.instanceMethod yX7_coupleOf ∈ xT ∧ Cond.selects RX7 yX7_coupleOf yX7_coupleOf ∈ xT ∧ Cond.initialized RX7 ∈ xT ∧ Cond.code yX7_coupleOf cX7_coupleOf 3 (some .int) ∈ xT ∧ (yX7_coupleOf.cls = RX7 ∧ yX7_coupleOf.cls ≠ "java/lang/invoke/MethodHandle" ∧ yX7_coupleOf.cls ≠ "java/lang/invoke/VarHandle" ∧ (parseMethodDescriptor yX7_coupleOf.desc).map (fun d => d.parameters.length) = some 2) := ⟨xT_m4 224 (by decide +kernel) rfl, xT_m4 225 (by decide +kernel) rfl, xT_m1 7 (by decide +kernel) rfl, xT_m4 226 (by decide +kernel) rfl, by decide +kernel⟩
theorem xc_L_27 : XCV RL 27 RX7 yX7_coupleOf cX7_coupleOf 3 (some .int) 2 := ⟨xT_m4 223 (by decide +kernel) rfl, xm_X7_coupleOf.1, xm_X7_coupleOf.2.1, xm_X7_coupleOf.2.2.1, xm_X7_coupleOf.2.2.2.1, xm_X7_coupleOf.2.2.2.2⟩
theorem xm_X7_guestsOf : Cond.instanceMethod yX7_guestsOf ∈ xT ∧ Cond.selects RX7 yX7_guestsOf yX7_guestsOf ∈ xT ∧ Cond.initialized RX7 ∈ xT ∧ Cond.code yX7_guestsOf cX7_guestsOf 3 (some .int) ∈ xT ∧ (yX7_guestsOf.cls = RX7 ∧ yX7_guestsOf.cls ≠ "java/lang/invoke/MethodHandle" ∧ yX7_guestsOf.cls ≠ "java/lang/invoke/VarHandle" ∧ (parseMethodDescriptor yX7_guestsOf.desc).map (fun d => d.parameters.length) = some 1) := ⟨xT_m4 229 (by decide +kernel) rfl, xT_m0 33 (by decide +kernel) rfl, xT_m1 7 (by decide +kernel) rfl, xT_m4 230 (by decide +kernel) rfl, by decide +kernel⟩
theorem xc_X7_225 : XCV RX7 225 RX7 yX7_guestsOf cX7_guestsOf 3 (some .int) 1 := ⟨xT_m4 227 (by decide +kernel) rfl, xm_X7_guestsOf.1, xm_X7_guestsOf.2.1, xm_X7_guestsOf.2.2.1, xm_X7_guestsOf.2.2.2.1, xm_X7_guestsOf.2.2.2.2⟩
theorem xm_X7_posesOf : Cond.instanceMethod yX7_posesOf ∈ xT ∧ Cond.selects RX7 yX7_posesOf yX7_posesOf ∈ xT ∧ Cond.initialized RX7 ∈ xT ∧ Cond.code yX7_posesOf cX7_posesOf 2 (some .int) ∈ xT ∧ (yX7_posesOf.cls = RX7 ∧ yX7_posesOf.cls ≠ "java/lang/invoke/MethodHandle" ∧ yX7_posesOf.cls ≠ "java/lang/invoke/VarHandle" ∧ (parseMethodDescriptor yX7_posesOf.desc).map (fun d => d.parameters.length) = some 1) := ⟨xT_m4 233 (by decide +kernel) rfl, xT_m0 34 (by decide +kernel) rfl, xT_m1 7 (by decide +kernel) rfl, xT_m4 234 (by decide +kernel) rfl, by decide +kernel⟩
theorem xc_X7_228 : XCV RX7 228 RX7 yX7_posesOf cX7_posesOf 2 (some .int) 1 := ⟨xT_m4 231 (by decide +kernel) rfl, xm_X7_posesOf.1, xm_X7_posesOf.2.1, xm_X7_posesOf.2.2.1, xm_X7_posesOf.2.2.2.1, xm_X7_posesOf.2.2.2.2⟩
theorem xm_X7_order : Cond.instanceMethod yX7_order ∈ xT ∧ Cond.selects RX7 yX7_order yX7_order ∈ xT ∧ Cond.initialized RX7 ∈ xT ∧ Cond.code yX7_order cX7_order 2 (some .int) ∈ xT ∧ (yX7_order.cls = RX7 ∧ yX7_order.cls ≠ "java/lang/invoke/MethodHandle" ∧ yX7_order.cls ≠ "java/lang/invoke/VarHandle" ∧ (parseMethodDescriptor yX7_order.desc).map (fun d => d.parameters.length) = some 1) := ⟨xT_m4 236 (by decide +kernel) rfl, xT_m4 237 (by decide +kernel) rfl, xT_m1 7 (by decide +kernel) rfl, xT_m4 238 (by decide +kernel) rfl, by decide +kernel⟩
theorem xc_L_31 : XCV RL 31 RX7 yX7_order cX7_order 2 (some .int) 1 := ⟨xT_m4 235 (by decide +kernel) rfl, xm_X7_order.1, xm_X7_order.2.1, xm_X7_order.2.2.1, xm_X7_order.2.2.2.1, xm_X7_order.2.2.2.2⟩
theorem xm_X7_free : Cond.instanceMethod yX7_free ∈ xT ∧ Cond.selects RX7 yX7_free yX7_free ∈ xT ∧ Cond.initialized RX7 ∈ xT ∧ Cond.code yX7_free cX7_free 2 (some .int) ∈ xT ∧ (yX7_free.cls = RX7 ∧ yX7_free.cls ≠ "java/lang/invoke/MethodHandle" ∧ yX7_free.cls ≠ "java/lang/invoke/VarHandle" ∧ (parseMethodDescriptor yX7_free.desc).map (fun d => d.parameters.length) = some 1) := ⟨xT_m5 0 (by decide +kernel) rfl, xT_m5 1 (by decide +kernel) rfl, xT_m1 7 (by decide +kernel) rfl, xT_m5 2 (by decide +kernel) rfl, by decide +kernel⟩
theorem xc_L_35 : XCV RL 35 RX7 yX7_free cX7_free 2 (some .int) 1 := ⟨xT_m4 239 (by decide +kernel) rfl, xm_X7_free.1, xm_X7_free.2.1, xm_X7_free.2.2.1, xm_X7_free.2.2.2.1, xm_X7_free.2.2.2.2⟩
theorem xm_X7_couple : Cond.instanceMethod yX7_couple ∈ xT ∧ Cond.selects RX7 yX7_couple yX7_couple ∈ xT ∧ Cond.initialized RX7 ∈ xT ∧ Cond.code yX7_couple cX7_couple 5 (some .int) ∈ xT ∧ (yX7_couple.cls = RX7 ∧ yX7_couple.cls ≠ "java/lang/invoke/MethodHandle" ∧ yX7_couple.cls ≠ "java/lang/invoke/VarHandle" ∧ (parseMethodDescriptor yX7_couple.desc).map (fun d => d.parameters.length) = some 3) := ⟨xT_m5 4 (by decide +kernel) rfl, xT_m5 5 (by decide +kernel) rfl, xT_m1 7 (by decide +kernel) rfl, xT_m5 6 (by decide +kernel) rfl, by decide +kernel⟩
theorem xc_L_40 : XCV RL 40 RX7 yX7_couple cX7_couple 5 (some .int) 3 := ⟨xT_m5 3 (by decide +kernel) rfl, xm_X7_couple.1, xm_X7_couple.2.1, xm_X7_couple.2.2.1, xm_X7_couple.2.2.2.1, xm_X7_couple.2.2.2.2⟩
theorem xm_X7_rooms : Cond.instanceMethod yX7_rooms ∈ xT ∧ Cond.selects RX7 yX7_rooms yX7_rooms ∈ xT ∧ Cond.initialized RX7 ∈ xT ∧ Cond.code yX7_rooms cX7_rooms 3 (some .int) ∈ xT ∧ (yX7_rooms.cls = RX7 ∧ yX7_rooms.cls ≠ "java/lang/invoke/MethodHandle" ∧ yX7_rooms.cls ≠ "java/lang/invoke/VarHandle" ∧ (parseMethodDescriptor yX7_rooms.desc).map (fun d => d.parameters.length) = some 1) := ⟨xT_m5 9 (by decide +kernel) rfl, xT_m5 10 (by decide +kernel) rfl, xT_m1 7 (by decide +kernel) rfl, xT_m5 11 (by decide +kernel) rfl, by decide +kernel⟩
theorem xc_L_44 : XCV RL 44 RX7 yX7_rooms cX7_rooms 3 (some .int) 1 := ⟨xT_m5 8 (by decide +kernel) rfl, xm_X7_rooms.1, xm_X7_rooms.2.1, xm_X7_rooms.2.2.1, xm_X7_rooms.2.2.2.1, xm_X7_rooms.2.2.2.2⟩
theorem xm_X7_wrongNumber : Cond.static yX7_wrongNumber ∈ xT ∧ Cond.initialized yX7_wrongNumber.cls ∈ xT ∧ Cond.code yX7_wrongNumber cX7_wrongNumber 3 (some .int) ∈ xT ∧ (yX7_wrongNumber.cls ≠ "java/lang/invoke/MethodHandle" ∧ yX7_wrongNumber.cls ≠ "java/lang/invoke/VarHandle" ∧ (parseMethodDescriptor yX7_wrongNumber.desc).map (fun d => d.parameters.length) = some 3) := ⟨xT_m5 13 (by decide +kernel) rfl, xT_m1 7 (by decide +kernel) rfl, xT_m5 14 (by decide +kernel) rfl, by decide +kernel⟩
theorem xc_X7_233 : XCS RX7 233 yX7_wrongNumber cX7_wrongNumber 3 (some .int) 3 := ⟨xT_m5 12 (by decide +kernel) rfl, xm_X7_wrongNumber.1, xm_X7_wrongNumber.2.1, xm_X7_wrongNumber.2.2.1, xm_X7_wrongNumber.2.2.2⟩
theorem xm_X7_weds : Cond.instanceMethod yX7_weds ∈ xT ∧ Cond.selects RX7 yX7_weds yX7_weds ∈ xT ∧ Cond.initialized RX7 ∈ xT ∧ Cond.code yX7_weds cX7_weds 4 (some .int) ∈ xT ∧ (yX7_weds.cls = RX7 ∧ yX7_weds.cls ≠ "java/lang/invoke/MethodHandle" ∧ yX7_weds.cls ≠ "java/lang/invoke/VarHandle" ∧ (parseMethodDescriptor yX7_weds.desc).map (fun d => d.parameters.length) = some 1) := ⟨xT_m5 16 (by decide +kernel) rfl, xT_m5 17 (by decide +kernel) rfl, xT_m1 7 (by decide +kernel) rfl, xT_m5 18 (by decide +kernel) rfl, by decide +kernel⟩
theorem xc_L_48 : XCV RL 48 RX7 yX7_weds cX7_weds 4 (some .int) 1 := ⟨xT_m5 15 (by decide +kernel) rfl, xm_X7_weds.1, xm_X7_weds.2.1, xm_X7_weds.2.2.1, xm_X7_weds.2.2.2.1, xm_X7_weds.2.2.2.2⟩
theorem xm_X7_keepTurn : Cond.instanceMethod yX7_keepTurn ∈ xT ∧ Cond.selects RX7 yX7_keepTurn yX7_keepTurn ∈ xT ∧ Cond.initialized RX7 ∈ xT ∧ Cond.code yX7_keepTurn cX7_keepTurn 2 none ∈ xT ∧ (yX7_keepTurn.cls = RX7 ∧ yX7_keepTurn.cls ≠ "java/lang/invoke/MethodHandle" ∧ yX7_keepTurn.cls ≠ "java/lang/invoke/VarHandle" ∧ (parseMethodDescriptor yX7_keepTurn.desc).map (fun d => d.parameters.length) = some 0) := ⟨xT_m5 21 (by decide +kernel) rfl, xT_m0 35 (by decide +kernel) rfl, xT_m1 7 (by decide +kernel) rfl, xT_m5 22 (by decide +kernel) rfl, by decide +kernel⟩
theorem xc_X7_237 : XCV RX7 237 RX7 yX7_keepTurn cX7_keepTurn 2 none 0 := ⟨xT_m5 19 (by decide +kernel) rfl, xm_X7_keepTurn.1, xm_X7_keepTurn.2.1, xm_X7_keepTurn.2.2.1, xm_X7_keepTurn.2.2.2.1, xm_X7_keepTurn.2.2.2.2⟩
theorem xm_X7_pulls : Cond.instanceMethod yX7_pulls ∈ xT ∧ Cond.selects RX7 yX7_pulls yX7_pulls ∈ xT ∧ Cond.initialized RX7 ∈ xT ∧ Cond.code yX7_pulls cX7_pulls 4 (some .int) ∈ xT ∧ (yX7_pulls.cls = RX7 ∧ yX7_pulls.cls ≠ "java/lang/invoke/MethodHandle" ∧ yX7_pulls.cls ≠ "java/lang/invoke/VarHandle" ∧ (parseMethodDescriptor yX7_pulls.desc).map (fun d => d.parameters.length) = some 1) := ⟨xT_m5 24 (by decide +kernel) rfl, xT_m5 25 (by decide +kernel) rfl, xT_m1 7 (by decide +kernel) rfl, xT_m5 26 (by decide +kernel) rfl, by decide +kernel⟩
theorem xc_L_52 : XCV RL 52 RX7 yX7_pulls cX7_pulls 4 (some .int) 1 := ⟨xT_m5 23 (by decide +kernel) rfl, xm_X7_pulls.1, xm_X7_pulls.2.1, xm_X7_pulls.2.2.1, xm_X7_pulls.2.2.2.1, xm_X7_pulls.2.2.2.2⟩
theorem xm_X7_slack : Cond.instanceMethod yX7_slack ∈ xT ∧ Cond.selects RX7 yX7_slack yX7_slack ∈ xT ∧ Cond.initialized RX7 ∈ xT ∧ Cond.code yX7_slack cX7_slack 3 (some .int) ∈ xT ∧ (yX7_slack.cls = RX7 ∧ yX7_slack.cls ≠ "java/lang/invoke/MethodHandle" ∧ yX7_slack.cls ≠ "java/lang/invoke/VarHandle" ∧ (parseMethodDescriptor yX7_slack.desc).map (fun d => d.parameters.length) = some 1) := ⟨xT_m5 28 (by decide +kernel) rfl, xT_m5 29 (by decide +kernel) rfl, xT_m1 7 (by decide +kernel) rfl, xT_m5 30 (by decide +kernel) rfl, by decide +kernel⟩
theorem xc_L_56 : XCV RL 56 RX7 yX7_slack cX7_slack 3 (some .int) 1 := ⟨xT_m5 27 (by decide +kernel) rfl, xm_X7_slack.1, xm_X7_slack.2.1, xm_X7_slack.2.2.1, xm_X7_slack.2.2.2.1, xm_X7_slack.2.2.2.2⟩
theorem xm_X7_rests : Cond.instanceMethod yX7_rests ∈ xT ∧ Cond.selects RX7 yX7_rests yX7_rests ∈ xT ∧ Cond.initialized RX7 ∈ xT ∧ Cond.code yX7_rests cX7_rests 3 (some .int) ∈ xT ∧ (yX7_rests.cls = RX7 ∧ yX7_rests.cls ≠ "java/lang/invoke/MethodHandle" ∧ yX7_rests.cls ≠ "java/lang/invoke/VarHandle" ∧ (parseMethodDescriptor yX7_rests.desc).map (fun d => d.parameters.length) = some 1) := ⟨xT_m5 32 (by decide +kernel) rfl, xT_m5 33 (by decide +kernel) rfl, xT_m1 7 (by decide +kernel) rfl, xT_m5 34 (by decide +kernel) rfl, by decide +kernel⟩
theorem xc_L_60 : XCV RL 60 RX7 yX7_rests cX7_rests 3 (some .int) 1 := ⟨xT_m5 31 (by decide +kernel) rfl, xm_X7_rests.1, xm_X7_rests.2.1, xm_X7_rests.2.2.1, xm_X7_rests.2.2.2.1, xm_X7_rests.2.2.2.2⟩
theorem xm_X7_when : Cond.instanceMethod yX7_when ∈ xT ∧ Cond.selects RX7 yX7_when yX7_when ∈ xT ∧ Cond.initialized RX7 ∈ xT ∧ Cond.code yX7_when cX7_when 5 (some .int) ∈ xT ∧ (yX7_when.cls = RX7 ∧ yX7_when.cls ≠ "java/lang/invoke/MethodHandle" ∧ yX7_when.cls ≠ "java/lang/invoke/VarHandle" ∧ (parseMethodDescriptor yX7_when.desc).map (fun d => d.parameters.length) = some 2) := ⟨xT_m5 36 (by decide +kernel) rfl, xT_m5 37 (by decide +kernel) rfl, xT_m1 7 (by decide +kernel) rfl, xT_m5 38 (by decide +kernel) rfl, by decide +kernel⟩
theorem xc_L_68 : XCV RL 68 RX7 yX7_when cX7_when 5 (some .int) 2 := ⟨xT_m5 35 (by decide +kernel) rfl, xm_X7_when.1, xm_X7_when.2.1, xm_X7_when.2.2.1, xm_X7_when.2.2.2.1, xm_X7_when.2.2.2.2⟩
theorem xm_X7_wrongBit : Cond.static yX7_wrongBit ∈ xT ∧ Cond.initialized yX7_wrongBit.cls ∈ xT ∧ Cond.code yX7_wrongBit cX7_wrongBit 3 (some .int) ∈ xT ∧ (yX7_wrongBit.cls ≠ "java/lang/invoke/MethodHandle" ∧ yX7_wrongBit.cls ≠ "java/lang/invoke/VarHandle" ∧ (parseMethodDescriptor yX7_wrongBit.desc).map (fun d => d.parameters.length) = some 3) := ⟨xT_m5 40 (by decide +kernel) rfl, xT_m1 7 (by decide +kernel) rfl, xT_m5 41 (by decide +kernel) rfl, by decide +kernel⟩
theorem xc_X7_240 : XCS RX7 240 yX7_wrongBit cX7_wrongBit 3 (some .int) 3 := ⟨xT_m5 39 (by decide +kernel) rfl, xm_X7_wrongBit.1, xm_X7_wrongBit.2.1, xm_X7_wrongBit.2.2.1, xm_X7_wrongBit.2.2.2⟩
theorem xm_X7_wedAll : Cond.instanceMethod yX7_wedAll ∈ xT ∧ Cond.selects RX7 yX7_wedAll yX7_wedAll ∈ xT ∧ Cond.initialized RX7 ∈ xT ∧ Cond.code yX7_wedAll cX7_wedAll 1 none ∈ xT ∧ (yX7_wedAll.cls = RX7 ∧ yX7_wedAll.cls ≠ "java/lang/invoke/MethodHandle" ∧ yX7_wedAll.cls ≠ "java/lang/invoke/VarHandle" ∧ (parseMethodDescriptor yX7_wedAll.desc).map (fun d => d.parameters.length) = some 0) := ⟨xT_m5 44 (by decide +kernel) rfl, xT_m0 36 (by decide +kernel) rfl, xT_m1 7 (by decide +kernel) rfl, xT_m5 45 (by decide +kernel) rfl, by decide +kernel⟩
theorem xc_X7_243 : XCV RX7 243 RX7 yX7_wedAll cX7_wedAll 1 none 0 := ⟨xT_m5 42 (by decide +kernel) rfl, xm_X7_wedAll.1, xm_X7_wedAll.2.1, xm_X7_wedAll.2.2.1, xm_X7_wedAll.2.2.2.1, xm_X7_wedAll.2.2.2.2⟩
theorem xm_X7_lateOf : Cond.instanceMethod yX7_lateOf ∈ xT ∧ Cond.selects RX7 yX7_lateOf yX7_lateOf ∈ xT ∧ Cond.initialized RX7 ∈ xT ∧ Cond.code yX7_lateOf cX7_lateOf 2 (some .int) ∈ xT ∧ (yX7_lateOf.cls = RX7 ∧ yX7_lateOf.cls ≠ "java/lang/invoke/MethodHandle" ∧ yX7_lateOf.cls ≠ "java/lang/invoke/VarHandle" ∧ (parseMethodDescriptor yX7_lateOf.desc).map (fun d => d.parameters.length) = some 1) := ⟨xT_m5 48 (by decide +kernel) rfl, xT_m0 37 (by decide +kernel) rfl, xT_m1 7 (by decide +kernel) rfl, xT_m5 49 (by decide +kernel) rfl, by decide +kernel⟩
theorem xc_X7_121 : XCV RX7 121 RX7 yX7_lateOf cX7_lateOf 2 (some .int) 1 := ⟨xT_m5 46 (by decide +kernel) rfl, xm_X7_lateOf.1, xm_X7_lateOf.2.1, xm_X7_lateOf.2.2.1, xm_X7_lateOf.2.2.2.1, xm_X7_lateOf.2.2.2.2⟩
theorem xm_X7_waits : Cond.instanceMethod yX7_waits ∈ xT ∧ Cond.selects RX7 yX7_waits yX7_waits ∈ xT ∧ Cond.initialized RX7 ∈ xT ∧ Cond.code yX7_waits cX7_waits 3 (some .int) ∈ xT ∧ (yX7_waits.cls = RX7 ∧ yX7_waits.cls ≠ "java/lang/invoke/MethodHandle" ∧ yX7_waits.cls ≠ "java/lang/invoke/VarHandle" ∧ (parseMethodDescriptor yX7_waits.desc).map (fun d => d.parameters.length) = some 1) := ⟨xT_m5 51 (by decide +kernel) rfl, xT_m5 52 (by decide +kernel) rfl, xT_m1 7 (by decide +kernel) rfl, xT_m5 53 (by decide +kernel) rfl, by decide +kernel⟩
theorem xc_L_72 : XCV RL 72 RX7 yX7_waits cX7_waits 3 (some .int) 1 := ⟨xT_m5 50 (by decide +kernel) rfl, xm_X7_waits.1, xm_X7_waits.2.1, xm_X7_waits.2.2.1, xm_X7_waits.2.2.2.1, xm_X7_waits.2.2.2.2⟩
theorem xm_X7_all : Cond.instanceMethod yX7_all ∈ xT ∧ Cond.selects RX7 yX7_all yX7_all ∈ xT ∧ Cond.initialized RX7 ∈ xT ∧ Cond.code yX7_all cX7_all 3 (some .int) ∈ xT ∧ (yX7_all.cls = RX7 ∧ yX7_all.cls ≠ "java/lang/invoke/MethodHandle" ∧ yX7_all.cls ≠ "java/lang/invoke/VarHandle" ∧ (parseMethodDescriptor yX7_all.desc).map (fun d => d.parameters.length) = some 1) := ⟨xT_m5 56 (by decide +kernel) rfl, xT_m5 57 (by decide +kernel) rfl, xT_m1 7 (by decide +kernel) rfl, xT_m5 58 (by decide +kernel) rfl, by decide +kernel⟩
theorem xc_L_76 : XCV RL 76 RX7 yX7_all cX7_all 3 (some .int) 1 := ⟨xT_m5 55 (by decide +kernel) rfl, xm_X7_all.1, xm_X7_all.2.1, xm_X7_all.2.2.1, xm_X7_all.2.2.2.1, xm_X7_all.2.2.2.2⟩
theorem xm_X7_allLate : Cond.instanceMethod yX7_allLate ∈ xT ∧ Cond.selects RX7 yX7_allLate yX7_allLate ∈ xT ∧ Cond.initialized RX7 ∈ xT ∧ Cond.code yX7_allLate cX7_allLate 3 (some .int) ∈ xT ∧ (yX7_allLate.cls = RX7 ∧ yX7_allLate.cls ≠ "java/lang/invoke/MethodHandle" ∧ yX7_allLate.cls ≠ "java/lang/invoke/VarHandle" ∧ (parseMethodDescriptor yX7_allLate.desc).map (fun d => d.parameters.length) = some 0) := ⟨xT_m5 61 (by decide +kernel) rfl, xT_m0 38 (by decide +kernel) rfl, xT_m1 7 (by decide +kernel) rfl, xT_m5 62 (by decide +kernel) rfl, by decide +kernel⟩
theorem xc_X7_247 : XCV RX7 247 RX7 yX7_allLate cX7_allLate 3 (some .int) 0 := ⟨xT_m5 59 (by decide +kernel) rfl, xm_X7_allLate.1, xm_X7_allLate.2.1, xm_X7_allLate.2.2.1, xm_X7_allLate.2.2.2.1, xm_X7_allLate.2.2.2.2⟩
theorem xm_X7_lastEnd : Cond.instanceMethod yX7_lastEnd ∈ xT ∧ Cond.selects RX7 yX7_lastEnd yX7_lastEnd ∈ xT ∧ Cond.initialized RX7 ∈ xT ∧ Cond.code yX7_lastEnd cX7_lastEnd 3 (some .int) ∈ xT ∧ (yX7_lastEnd.cls = RX7 ∧ yX7_lastEnd.cls ≠ "java/lang/invoke/MethodHandle" ∧ yX7_lastEnd.cls ≠ "java/lang/invoke/VarHandle" ∧ (parseMethodDescriptor yX7_lastEnd.desc).map (fun d => d.parameters.length) = some 0) := ⟨xT_m5 65 (by decide +kernel) rfl, xT_m0 39 (by decide +kernel) rfl, xT_m1 7 (by decide +kernel) rfl, xT_m5 66 (by decide +kernel) rfl, by decide +kernel⟩
theorem xc_X7_250 : XCV RX7 250 RX7 yX7_lastEnd cX7_lastEnd 3 (some .int) 0 := ⟨xT_m5 63 (by decide +kernel) rfl, xm_X7_lastEnd.1, xm_X7_lastEnd.2.1, xm_X7_lastEnd.2.2.1, xm_X7_lastEnd.2.2.2.1, xm_X7_lastEnd.2.2.2.2⟩
theorem xm_X7_met : Cond.instanceMethod yX7_met ∈ xT ∧ Cond.selects RX7 yX7_met yX7_met ∈ xT ∧ Cond.initialized RX7 ∈ xT ∧ Cond.code yX7_met cX7_met 3 (some .int) ∈ xT ∧ (yX7_met.cls = RX7 ∧ yX7_met.cls ≠ "java/lang/invoke/MethodHandle" ∧ yX7_met.cls ≠ "java/lang/invoke/VarHandle" ∧ (parseMethodDescriptor yX7_met.desc).map (fun d => d.parameters.length) = some 1) := ⟨xT_m5 68 (by decide +kernel) rfl, xT_m5 69 (by decide +kernel) rfl, xT_m1 7 (by decide +kernel) rfl, xT_m5 70 (by decide +kernel) rfl, by decide +kernel⟩
theorem xc_L_80 : XCV RL 80 RX7 yX7_met cX7_met 3 (some .int) 1 := ⟨xT_m5 67 (by decide +kernel) rfl, xm_X7_met.1, xm_X7_met.2.1, xm_X7_met.2.2.1, xm_X7_met.2.2.2.1, xm_X7_met.2.2.2.2⟩
theorem xm_X7_meetMany : Cond.instanceMethod yX7_meetMany ∈ xT ∧ Cond.selects RX7 yX7_meetMany yX7_meetMany ∈ xT ∧ Cond.initialized RX7 ∈ xT ∧ Cond.code yX7_meetMany cX7_meetMany 4 (some .int) ∈ xT ∧ (yX7_meetMany.cls = RX7 ∧ yX7_meetMany.cls ≠ "java/lang/invoke/MethodHandle" ∧ yX7_meetMany.cls ≠ "java/lang/invoke/VarHandle" ∧ (parseMethodDescriptor yX7_meetMany.desc).map (fun d => d.parameters.length) = some 0) := ⟨xT_m5 73 (by decide +kernel) rfl, xT_m0 40 (by decide +kernel) rfl, xT_m1 7 (by decide +kernel) rfl, xT_m5 74 (by decide +kernel) rfl, by decide +kernel⟩
theorem xc_X7_253 : XCV RX7 253 RX7 yX7_meetMany cX7_meetMany 4 (some .int) 0 := ⟨xT_m5 71 (by decide +kernel) rfl, xm_X7_meetMany.1, xm_X7_meetMany.2.1, xm_X7_meetMany.2.2.1, xm_X7_meetMany.2.2.2.1, xm_X7_meetMany.2.2.2.2⟩
theorem xm_X7_meet : Cond.instanceMethod yX7_meet ∈ xT ∧ Cond.selects RX7 yX7_meet yX7_meet ∈ xT ∧ Cond.initialized RX7 ∈ xT ∧ Cond.code yX7_meet cX7_meet 3 (some .boolean) ∈ xT ∧ (yX7_meet.cls = RX7 ∧ yX7_meet.cls ≠ "java/lang/invoke/MethodHandle" ∧ yX7_meet.cls ≠ "java/lang/invoke/VarHandle" ∧ (parseMethodDescriptor yX7_meet.desc).map (fun d => d.parameters.length) = some 2) := ⟨xT_m5 77 (by decide +kernel) rfl, xT_m0 41 (by decide +kernel) rfl, xT_m1 7 (by decide +kernel) rfl, xT_m5 78 (by decide +kernel) rfl, by decide +kernel⟩
theorem xc_X7_132 : XCV RX7 132 RX7 yX7_meet cX7_meet 3 (some .boolean) 2 := ⟨xT_m5 75 (by decide +kernel) rfl, xm_X7_meet.1, xm_X7_meet.2.1, xm_X7_meet.2.2.1, xm_X7_meet.2.2.2.1, xm_X7_meet.2.2.2.2⟩
theorem xm_X7_isNear : Cond.static yX7_isNear ∈ xT ∧ Cond.initialized yX7_isNear.cls ∈ xT ∧ Cond.code yX7_isNear cX7_isNear 2 (some .boolean) ∈ xT ∧ (yX7_isNear.cls ≠ "java/lang/invoke/MethodHandle" ∧ yX7_isNear.cls ≠ "java/lang/invoke/VarHandle" ∧ (parseMethodDescriptor yX7_isNear.desc).map (fun d => d.parameters.length) = some 2) := ⟨xT_m5 80 (by decide +kernel) rfl, xT_m1 7 (by decide +kernel) rfl, xT_m5 81 (by decide +kernel) rfl, by decide +kernel⟩
theorem xc_X7_128 : XCS RX7 128 yX7_isNear cX7_isNear 2 (some .boolean) 2 := ⟨xT_m5 79 (by decide +kernel) rfl, xm_X7_isNear.1, xm_X7_isNear.2.1, xm_X7_isNear.2.2.1, xm_X7_isNear.2.2.2⟩
theorem xm_X7_firstMet : Cond.instanceMethod yX7_firstMet ∈ xT ∧ Cond.selects RX7 yX7_firstMet yX7_firstMet ∈ xT ∧ Cond.initialized RX7 ∈ xT ∧ Cond.code yX7_firstMet cX7_firstMet 3 (some .int) ∈ xT ∧ (yX7_firstMet.cls = RX7 ∧ yX7_firstMet.cls ≠ "java/lang/invoke/MethodHandle" ∧ yX7_firstMet.cls ≠ "java/lang/invoke/VarHandle" ∧ (parseMethodDescriptor yX7_firstMet.desc).map (fun d => d.parameters.length) = some 0) := ⟨xT_m5 85 (by decide +kernel) rfl, xT_m0 42 (by decide +kernel) rfl, xT_m1 7 (by decide +kernel) rfl, xT_m5 86 (by decide +kernel) rfl, by decide +kernel⟩
theorem xc_X7_256 : XCV RX7 256 RX7 yX7_firstMet cX7_firstMet 3 (some .int) 0 := ⟨xT_m5 83 (by decide +kernel) rfl, xm_X7_firstMet.1, xm_X7_firstMet.2.1, xm_X7_firstMet.2.2.1, xm_X7_firstMet.2.2.2.1, xm_X7_firstMet.2.2.2.2⟩
theorem xm_X7_strayedOne : Cond.instanceMethod yX7_strayedOne ∈ xT ∧ Cond.selects RX7 yX7_strayedOne yX7_strayedOne ∈ xT ∧ Cond.initialized RX7 ∈ xT ∧ Cond.code yX7_strayedOne cX7_strayedOne 6 (some .int) ∈ xT ∧ (yX7_strayedOne.cls = RX7 ∧ yX7_strayedOne.cls ≠ "java/lang/invoke/MethodHandle" ∧ yX7_strayedOne.cls ≠ "java/lang/invoke/VarHandle" ∧ (parseMethodDescriptor yX7_strayedOne.desc).map (fun d => d.parameters.length) = some 0) := ⟨xT_m5 89 (by decide +kernel) rfl, xT_m0 43 (by decide +kernel) rfl, xT_m1 7 (by decide +kernel) rfl, xT_m5 90 (by decide +kernel) rfl, by decide +kernel⟩
theorem xc_X7_259 : XCV RX7 259 RX7 yX7_strayedOne cX7_strayedOne 6 (some .int) 0 := ⟨xT_m5 87 (by decide +kernel) rfl, xm_X7_strayedOne.1, xm_X7_strayedOne.2.1, xm_X7_strayedOne.2.2.1, xm_X7_strayedOne.2.2.2.1, xm_X7_strayedOne.2.2.2.2⟩
theorem xm_X7_best : Cond.instanceMethod yX7_best ∈ xT ∧ Cond.selects RX7 yX7_best yX7_best ∈ xT ∧ Cond.initialized RX7 ∈ xT ∧ Cond.code yX7_best cX7_best 8 (some .int) ∈ xT ∧ (yX7_best.cls = RX7 ∧ yX7_best.cls ≠ "java/lang/invoke/MethodHandle" ∧ yX7_best.cls ≠ "java/lang/invoke/VarHandle" ∧ (parseMethodDescriptor yX7_best.desc).map (fun d => d.parameters.length) = some 1) := ⟨xT_m5 92 (by decide +kernel) rfl, xT_m5 93 (by decide +kernel) rfl, xT_m1 7 (by decide +kernel) rfl, xT_m5 94 (by decide +kernel) rfl, by decide +kernel⟩
theorem xc_L_84 : XCV RL 84 RX7 yX7_best cX7_best 8 (some .int) 1 := ⟨xT_m5 91 (by decide +kernel) rfl, xm_X7_best.1, xm_X7_best.2.1, xm_X7_best.2.2.1, xm_X7_best.2.2.2.1, xm_X7_best.2.2.2.2⟩
theorem xm_X7_laySorted : Cond.instanceMethod yX7_laySorted ∈ xT ∧ Cond.selects RX7 yX7_laySorted yX7_laySorted ∈ xT ∧ Cond.initialized RX7 ∈ xT ∧ Cond.code yX7_laySorted cX7_laySorted 3 none ∈ xT ∧ (yX7_laySorted.cls = RX7 ∧ yX7_laySorted.cls ≠ "java/lang/invoke/MethodHandle" ∧ yX7_laySorted.cls ≠ "java/lang/invoke/VarHandle" ∧ (parseMethodDescriptor yX7_laySorted.desc).map (fun d => d.parameters.length) = some 0) := ⟨xT_m5 97 (by decide +kernel) rfl, xT_m0 44 (by decide +kernel) rfl, xT_m1 7 (by decide +kernel) rfl, xT_m5 98 (by decide +kernel) rfl, by decide +kernel⟩
theorem xc_X7_268 : XCV RX7 268 RX7 yX7_laySorted cX7_laySorted 3 none 0 := ⟨xT_m5 95 (by decide +kernel) rfl, xm_X7_laySorted.1, xm_X7_laySorted.2.1, xm_X7_laySorted.2.2.1, xm_X7_laySorted.2.2.2.1, xm_X7_laySorted.2.2.2.2⟩
theorem xm_X7_ordersOf : Cond.static yX7_ordersOf ∈ xT ∧ Cond.initialized yX7_ordersOf.cls ∈ xT ∧ Cond.code yX7_ordersOf cX7_ordersOf 3 (some .int) ∈ xT ∧ (yX7_ordersOf.cls ≠ "java/lang/invoke/MethodHandle" ∧ yX7_ordersOf.cls ≠ "java/lang/invoke/VarHandle" ∧ (parseMethodDescriptor yX7_ordersOf.desc).map (fun d => d.parameters.length) = some 1) := ⟨xT_m5 100 (by decide +kernel) rfl, xT_m1 7 (by decide +kernel) rfl, xT_m5 101 (by decide +kernel) rfl, by decide +kernel⟩
theorem xc_X7_262 : XCS RX7 262 yX7_ordersOf cX7_ordersOf 3 (some .int) 1 := ⟨xT_m5 99 (by decide +kernel) rfl, xm_X7_ordersOf.1, xm_X7_ordersOf.2.1, xm_X7_ordersOf.2.2.1, xm_X7_ordersOf.2.2.2⟩
theorem xm_X7_layOrder : Cond.instanceMethod yX7_layOrder ∈ xT ∧ Cond.selects RX7 yX7_layOrder yX7_layOrder ∈ xT ∧ Cond.initialized RX7 ∈ xT ∧ Cond.code yX7_layOrder cX7_layOrder 8 none ∈ xT ∧ (yX7_layOrder.cls = RX7 ∧ yX7_layOrder.cls ≠ "java/lang/invoke/MethodHandle" ∧ yX7_layOrder.cls ≠ "java/lang/invoke/VarHandle" ∧ (parseMethodDescriptor yX7_layOrder.desc).map (fun d => d.parameters.length) = some 1) := ⟨xT_m5 104 (by decide +kernel) rfl, xT_m0 45 (by decide +kernel) rfl, xT_m1 7 (by decide +kernel) rfl, xT_m5 105 (by decide +kernel) rfl, by decide +kernel⟩
theorem xc_X7_271 : XCV RX7 271 RX7 yX7_layOrder cX7_layOrder 8 none 1 := ⟨xT_m5 102 (by decide +kernel) rfl, xm_X7_layOrder.1, xm_X7_layOrder.2.1, xm_X7_layOrder.2.2.1, xm_X7_layOrder.2.2.2.1, xm_X7_layOrder.2.2.2.2⟩
theorem xm_X7_hasBit : Cond.static yX7_hasBit ∈ xT ∧ Cond.initialized yX7_hasBit.cls ∈ xT ∧ Cond.code yX7_hasBit cX7_hasBit 2 (some .boolean) ∈ xT ∧ (yX7_hasBit.cls ≠ "java/lang/invoke/MethodHandle" ∧ yX7_hasBit.cls ≠ "java/lang/invoke/VarHandle" ∧ (parseMethodDescriptor yX7_hasBit.desc).map (fun d => d.parameters.length) = some 2) := ⟨xT_m5 107 (by decide +kernel) rfl, xT_m1 7 (by decide +kernel) rfl, xT_m5 108 (by decide +kernel) rfl, by decide +kernel⟩
theorem xc_X7_265 : XCS RX7 265 yX7_hasBit cX7_hasBit 2 (some .boolean) 2 := ⟨xT_m5 106 (by decide +kernel) rfl, xm_X7_hasBit.1, xm_X7_hasBit.2.1, xm_X7_hasBit.2.2.1, xm_X7_hasBit.2.2.2⟩
theorem xm_X7_lateNow : Cond.instanceMethod yX7_lateNow ∈ xT ∧ Cond.selects RX7 yX7_lateNow yX7_lateNow ∈ xT ∧ Cond.initialized RX7 ∈ xT ∧ Cond.code yX7_lateNow cX7_lateNow 1 (some .int) ∈ xT ∧ (yX7_lateNow.cls = RX7 ∧ yX7_lateNow.cls ≠ "java/lang/invoke/MethodHandle" ∧ yX7_lateNow.cls ≠ "java/lang/invoke/VarHandle" ∧ (parseMethodDescriptor yX7_lateNow.desc).map (fun d => d.parameters.length) = some 0) := ⟨xT_m5 111 (by decide +kernel) rfl, xT_m0 46 (by decide +kernel) rfl, xT_m1 7 (by decide +kernel) rfl, xT_m5 112 (by decide +kernel) rfl, by decide +kernel⟩
theorem xc_X7_274 : XCV RX7 274 RX7 yX7_lateNow cX7_lateNow 1 (some .int) 0 := ⟨xT_m5 109 (by decide +kernel) rfl, xm_X7_lateNow.1, xm_X7_lateNow.2.1, xm_X7_lateNow.2.2.1, xm_X7_lateNow.2.2.2.1, xm_X7_lateNow.2.2.2.2⟩
theorem xm_X7_pull : Cond.instanceMethod yX7_pull ∈ xT ∧ Cond.selects RX7 yX7_pull yX7_pull ∈ xT ∧ Cond.initialized RX7 ∈ xT ∧ Cond.code yX7_pull cX7_pull 5 (some .int) ∈ xT ∧ (yX7_pull.cls = RX7 ∧ yX7_pull.cls ≠ "java/lang/invoke/MethodHandle" ∧ yX7_pull.cls ≠ "java/lang/invoke/VarHandle" ∧ (parseMethodDescriptor yX7_pull.desc).map (fun d => d.parameters.length) = some 0) := ⟨xT_m5 114 (by decide +kernel) rfl, xT_m5 115 (by decide +kernel) rfl, xT_m1 7 (by decide +kernel) rfl, xT_m5 116 (by decide +kernel) rfl, by decide +kernel⟩
theorem xc_L_88 : XCV RL 88 RX7 yX7_pull cX7_pull 5 (some .int) 0 := ⟨xT_m5 113 (by decide +kernel) rfl, xm_X7_pull.1, xm_X7_pull.2.1, xm_X7_pull.2.2.1, xm_X7_pull.2.2.2.1, xm_X7_pull.2.2.2.2⟩
theorem xm_X7_bestSlack : Cond.instanceMethod yX7_bestSlack ∈ xT ∧ Cond.selects RX7 yX7_bestSlack yX7_bestSlack ∈ xT ∧ Cond.initialized RX7 ∈ xT ∧ Cond.code yX7_bestSlack cX7_bestSlack 6 (some .int) ∈ xT ∧ (yX7_bestSlack.cls = RX7 ∧ yX7_bestSlack.cls ≠ "java/lang/invoke/MethodHandle" ∧ yX7_bestSlack.cls ≠ "java/lang/invoke/VarHandle" ∧ (parseMethodDescriptor yX7_bestSlack.desc).map (fun d => d.parameters.length) = some 1) := ⟨xT_m5 118 (by decide +kernel) rfl, xT_m5 119 (by decide +kernel) rfl, xT_m1 7 (by decide +kernel) rfl, xT_m5 120 (by decide +kernel) rfl, by decide +kernel⟩
theorem xc_L_92 : XCV RL 92 RX7 yX7_bestSlack cX7_bestSlack 6 (some .int) 1 := ⟨xT_m5 117 (by decide +kernel) rfl, xm_X7_bestSlack.1, xm_X7_bestSlack.2.1, xm_X7_bestSlack.2.2.1, xm_X7_bestSlack.2.2.2.1, xm_X7_bestSlack.2.2.2.2⟩
theorem xm_X7_rest : Cond.instanceMethod yX7_rest ∈ xT ∧ Cond.selects RX7 yX7_rest yX7_rest ∈ xT ∧ Cond.initialized RX7 ∈ xT ∧ Cond.code yX7_rest cX7_rest 6 (some .int) ∈ xT ∧ (yX7_rest.cls = RX7 ∧ yX7_rest.cls ≠ "java/lang/invoke/MethodHandle" ∧ yX7_rest.cls ≠ "java/lang/invoke/VarHandle" ∧ (parseMethodDescriptor yX7_rest.desc).map (fun d => d.parameters.length) = some 0) := ⟨xT_m5 122 (by decide +kernel) rfl, xT_m5 123 (by decide +kernel) rfl, xT_m1 7 (by decide +kernel) rfl, xT_m5 124 (by decide +kernel) rfl, by decide +kernel⟩
theorem xc_L_96 : XCV RL 96 RX7 yX7_rest cX7_rest 6 (some .int) 0 := ⟨xT_m5 121 (by decide +kernel) rfl, xm_X7_rest.1, xm_X7_rest.2.1, xm_X7_rest.2.2.1, xm_X7_rest.2.2.2.1, xm_X7_rest.2.2.2.2⟩
theorem xm_X7_saved : Cond.instanceMethod yX7_saved ∈ xT ∧ Cond.selects RX7 yX7_saved yX7_saved ∈ xT ∧ Cond.initialized RX7 ∈ xT ∧ Cond.code yX7_saved cX7_saved 3 (some .int) ∈ xT ∧ (yX7_saved.cls = RX7 ∧ yX7_saved.cls ≠ "java/lang/invoke/MethodHandle" ∧ yX7_saved.cls ≠ "java/lang/invoke/VarHandle" ∧ (parseMethodDescriptor yX7_saved.desc).map (fun d => d.parameters.length) = some 0) := ⟨xT_m5 126 (by decide +kernel) rfl, xT_m5 127 (by decide +kernel) rfl, xT_m1 7 (by decide +kernel) rfl, xT_m5 128 (by decide +kernel) rfl, by decide +kernel⟩
theorem xc_L_100 : XCV RL 100 RX7 yX7_saved cX7_saved 3 (some .int) 0 := ⟨xT_m5 125 (by decide +kernel) rfl, xm_X7_saved.1, xm_X7_saved.2.1, xm_X7_saved.2.2.1, xm_X7_saved.2.2.2.1, xm_X7_saved.2.2.2.2⟩
theorem xm_X7_can : Cond.instanceMethod yX7_can ∈ xT ∧ Cond.selects RX7 yX7_can yX7_can ∈ xT ∧ Cond.initialized RX7 ∈ xT ∧ Cond.code yX7_can cX7_can 7 (some .int) ∈ xT ∧ (yX7_can.cls = RX7 ∧ yX7_can.cls ≠ "java/lang/invoke/MethodHandle" ∧ yX7_can.cls ≠ "java/lang/invoke/VarHandle" ∧ (parseMethodDescriptor yX7_can.desc).map (fun d => d.parameters.length) = some 3) := ⟨xT_m5 130 (by decide +kernel) rfl, xT_m5 131 (by decide +kernel) rfl, xT_m1 7 (by decide +kernel) rfl, xT_m5 132 (by decide +kernel) rfl, by decide +kernel⟩
theorem xc_L_104 : XCV RL 104 RX7 yX7_can cX7_can 7 (some .int) 3 := ⟨xT_m5 129 (by decide +kernel) rfl, xm_X7_can.1, xm_X7_can.2.1, xm_X7_can.2.2.1, xm_X7_can.2.2.2.1, xm_X7_can.2.2.2.2⟩
theorem xm_X7_fountain : Cond.instanceMethod yX7_fountain ∈ xT ∧ Cond.selects RX7 yX7_fountain yX7_fountain ∈ xT ∧ Cond.initialized RX7 ∈ xT ∧ Cond.code yX7_fountain cX7_fountain 2 (some .int) ∈ xT ∧ (yX7_fountain.cls = RX7 ∧ yX7_fountain.cls ≠ "java/lang/invoke/MethodHandle" ∧ yX7_fountain.cls ≠ "java/lang/invoke/VarHandle" ∧ (parseMethodDescriptor yX7_fountain.desc).map (fun d => d.parameters.length) = some 1) := ⟨xT_m5 134 (by decide +kernel) rfl, xT_m5 135 (by decide +kernel) rfl, xT_m1 7 (by decide +kernel) rfl, xT_m5 136 (by decide +kernel) rfl, by decide +kernel⟩
theorem xc_L_108 : XCV RL 108 RX7 yX7_fountain cX7_fountain 2 (some .int) 1 := ⟨xT_m5 133 (by decide +kernel) rfl, xm_X7_fountain.1, xm_X7_fountain.2.1, xm_X7_fountain.2.2.1, xm_X7_fountain.2.2.2.1, xm_X7_fountain.2.2.2.2⟩
theorem xm_X7_pose : Cond.instanceMethod yX7_pose ∈ xT ∧ Cond.selects RX7 yX7_pose yX7_pose ∈ xT ∧ Cond.initialized RX7 ∈ xT ∧ Cond.code yX7_pose cX7_pose 5 (some .int) ∈ xT ∧ (yX7_pose.cls = RX7 ∧ yX7_pose.cls ≠ "java/lang/invoke/MethodHandle" ∧ yX7_pose.cls ≠ "java/lang/invoke/VarHandle" ∧ (parseMethodDescriptor yX7_pose.desc).map (fun d => d.parameters.length) = some 0) := ⟨xT_m5 139 (by decide +kernel) rfl, xT_m0 47 (by decide +kernel) rfl, xT_m1 7 (by decide +kernel) rfl, xT_m5 140 (by decide +kernel) rfl, by decide +kernel⟩
theorem xc_X7_280 : XCV RX7 280 RX7 yX7_pose cX7_pose 5 (some .int) 0 := ⟨xT_m5 137 (by decide +kernel) rfl, xm_X7_pose.1, xm_X7_pose.2.1, xm_X7_pose.2.2.1, xm_X7_pose.2.2.2.1, xm_X7_pose.2.2.2.2⟩
theorem xm_X7_nextPosing : Cond.instanceMethod yX7_nextPosing ∈ xT ∧ Cond.selects RX7 yX7_nextPosing yX7_nextPosing ∈ xT ∧ Cond.initialized RX7 ∈ xT ∧ Cond.code yX7_nextPosing cX7_nextPosing 5 (some .int) ∈ xT ∧ (yX7_nextPosing.cls = RX7 ∧ yX7_nextPosing.cls ≠ "java/lang/invoke/MethodHandle" ∧ yX7_nextPosing.cls ≠ "java/lang/invoke/VarHandle" ∧ (parseMethodDescriptor yX7_nextPosing.desc).map (fun d => d.parameters.length) = some 1) := ⟨xT_m5 143 (by decide +kernel) rfl, xT_m0 48 (by decide +kernel) rfl, xT_m1 7 (by decide +kernel) rfl, xT_m5 144 (by decide +kernel) rfl, by decide +kernel⟩
theorem xc_X7_277 : XCV RX7 277 RX7 yX7_nextPosing cX7_nextPosing 5 (some .int) 1 := ⟨xT_m5 141 (by decide +kernel) rfl, xm_X7_nextPosing.1, xm_X7_nextPosing.2.1, xm_X7_nextPosing.2.2.1, xm_X7_nextPosing.2.2.2.1, xm_X7_nextPosing.2.2.2.2⟩
theorem xm_X7_fountains : Cond.instanceMethod yX7_fountains ∈ xT ∧ Cond.selects RX7 yX7_fountains yX7_fountains ∈ xT ∧ Cond.initialized RX7 ∈ xT ∧ Cond.code yX7_fountains cX7_fountains 7 (some .int) ∈ xT ∧ (yX7_fountains.cls = RX7 ∧ yX7_fountains.cls ≠ "java/lang/invoke/MethodHandle" ∧ yX7_fountains.cls ≠ "java/lang/invoke/VarHandle" ∧ (parseMethodDescriptor yX7_fountains.desc).map (fun d => d.parameters.length) = some 1) := ⟨xT_m5 146 (by decide +kernel) rfl, xT_m5 147 (by decide +kernel) rfl, xT_m1 7 (by decide +kernel) rfl, xT_m5 148 (by decide +kernel) rfl, by decide +kernel⟩
theorem xc_L_112 : XCV RL 112 RX7 yX7_fountains cX7_fountains 7 (some .int) 1 := ⟨xT_m5 145 (by decide +kernel) rfl, xm_X7_fountains.1, xm_X7_fountains.2.1, xm_X7_fountains.2.2.1, xm_X7_fountains.2.2.2.1, xm_X7_fountains.2.2.2.2⟩
theorem xm_X7_inside : Cond.instanceMethod yX7_inside ∈ xT ∧ Cond.selects RX7 yX7_inside yX7_inside ∈ xT ∧ Cond.initialized RX7 ∈ xT ∧ Cond.code yX7_inside cX7_inside 3 (some .int) ∈ xT ∧ (yX7_inside.cls = RX7 ∧ yX7_inside.cls ≠ "java/lang/invoke/MethodHandle" ∧ yX7_inside.cls ≠ "java/lang/invoke/VarHandle" ∧ (parseMethodDescriptor yX7_inside.desc).map (fun d => d.parameters.length) = some 1) := ⟨xT_m5 150 (by decide +kernel) rfl, xT_m5 151 (by decide +kernel) rfl, xT_m1 7 (by decide +kernel) rfl, xT_m5 152 (by decide +kernel) rfl, by decide +kernel⟩
theorem xc_L_116 : XCV RL 116 RX7 yX7_inside cX7_inside 3 (some .int) 1 := ⟨xT_m5 149 (by decide +kernel) rfl, xm_X7_inside.1, xm_X7_inside.2.1, xm_X7_inside.2.2.1, xm_X7_inside.2.2.2.1, xm_X7_inside.2.2.2.2⟩
theorem xm_X7_insideAt : Cond.instanceMethod yX7_insideAt ∈ xT ∧ Cond.selects RX7 yX7_insideAt yX7_insideAt ∈ xT ∧ Cond.initialized RX7 ∈ xT ∧ Cond.code yX7_insideAt cX7_insideAt 4 (some .int) ∈ xT ∧ (yX7_insideAt.cls = RX7 ∧ yX7_insideAt.cls ≠ "java/lang/invoke/MethodHandle" ∧ yX7_insideAt.cls ≠ "java/lang/invoke/VarHandle" ∧ (parseMethodDescriptor yX7_insideAt.desc).map (fun d => d.parameters.length) = some 1) := ⟨xT_m5 155 (by decide +kernel) rfl, xT_m0 49 (by decide +kernel) rfl, xT_m1 7 (by decide +kernel) rfl, xT_m5 156 (by decide +kernel) rfl, by decide +kernel⟩
theorem xc_X7_283 : XCV RX7 283 RX7 yX7_insideAt cX7_insideAt 4 (some .int) 1 := ⟨xT_m5 153 (by decide +kernel) rfl, xm_X7_insideAt.1, xm_X7_insideAt.2.1, xm_X7_insideAt.2.2.1, xm_X7_insideAt.2.2.2.1, xm_X7_insideAt.2.2.2.2⟩
theorem xm_X7_crowded : Cond.instanceMethod yX7_crowded ∈ xT ∧ Cond.selects RX7 yX7_crowded yX7_crowded ∈ xT ∧ Cond.initialized RX7 ∈ xT ∧ Cond.code yX7_crowded cX7_crowded 5 (some .int) ∈ xT ∧ (yX7_crowded.cls = RX7 ∧ yX7_crowded.cls ≠ "java/lang/invoke/MethodHandle" ∧ yX7_crowded.cls ≠ "java/lang/invoke/VarHandle" ∧ (parseMethodDescriptor yX7_crowded.desc).map (fun d => d.parameters.length) = some 0) := ⟨xT_m5 158 (by decide +kernel) rfl, xT_m5 159 (by decide +kernel) rfl, xT_m1 7 (by decide +kernel) rfl, xT_m5 160 (by decide +kernel) rfl, by decide +kernel⟩
theorem xc_L_120 : XCV RL 120 RX7 yX7_crowded cX7_crowded 5 (some .int) 0 := ⟨xT_m5 157 (by decide +kernel) rfl, xm_X7_crowded.1, xm_X7_crowded.2.1, xm_X7_crowded.2.2.1, xm_X7_crowded.2.2.2.1, xm_X7_crowded.2.2.2.2⟩
theorem xm_X7_price : Cond.instanceMethod yX7_price ∈ xT ∧ Cond.selects RX7 yX7_price yX7_price ∈ xT ∧ Cond.initialized RX7 ∈ xT ∧ Cond.code yX7_price cX7_price 4 (some .int) ∈ xT ∧ (yX7_price.cls = RX7 ∧ yX7_price.cls ≠ "java/lang/invoke/MethodHandle" ∧ yX7_price.cls ≠ "java/lang/invoke/VarHandle" ∧ (parseMethodDescriptor yX7_price.desc).map (fun d => d.parameters.length) = some 1) := ⟨xT_m5 162 (by decide +kernel) rfl, xT_m5 163 (by decide +kernel) rfl, xT_m1 7 (by decide +kernel) rfl, xT_m5 164 (by decide +kernel) rfl, by decide +kernel⟩
theorem xc_L_124 : XCV RL 124 RX7 yX7_price cX7_price 4 (some .int) 1 := ⟨xT_m5 161 (by decide +kernel) rfl, xm_X7_price.1, xm_X7_price.2.1, xm_X7_price.2.2.1, xm_X7_price.2.2.2.1, xm_X7_price.2.2.2.2⟩
theorem xm_X7_odds : Cond.instanceMethod yX7_odds ∈ xT ∧ Cond.selects RX7 yX7_odds yX7_odds ∈ xT ∧ Cond.initialized RX7 ∈ xT ∧ Cond.code yX7_odds cX7_odds 16 (some .long) ∈ xT ∧ (yX7_odds.cls = RX7 ∧ yX7_odds.cls ≠ "java/lang/invoke/MethodHandle" ∧ yX7_odds.cls ≠ "java/lang/invoke/VarHandle" ∧ (parseMethodDescriptor yX7_odds.desc).map (fun d => d.parameters.length) = some 4) := ⟨xT_m5 168 (by decide +kernel) rfl, xT_m5 169 (by decide +kernel) rfl, xT_m1 7 (by decide +kernel) rfl, xT_m5 170 (by decide +kernel) rfl, by decide +kernel⟩
theorem xc_L_129 : XCV RL 129 RX7 yX7_odds cX7_odds 16 (some .long) 4 := ⟨xT_m5 167 (by decide +kernel) rfl, xm_X7_odds.1, xm_X7_odds.2.1, xm_X7_odds.2.2.1, xm_X7_odds.2.2.2.1, xm_X7_odds.2.2.2.2⟩
theorem xm_X7_partOf : Cond.static yX7_partOf ∈ xT ∧ Cond.initialized yX7_partOf.cls ∈ xT ∧ Cond.code yX7_partOf cX7_partOf 7 (some .long) ∈ xT ∧ (yX7_partOf.cls ≠ "java/lang/invoke/MethodHandle" ∧ yX7_partOf.cls ≠ "java/lang/invoke/VarHandle" ∧ (parseMethodDescriptor yX7_partOf.desc).map (fun d => d.parameters.length) = some 3) := ⟨xT_m5 173 (by decide +kernel) rfl, xT_m1 7 (by decide +kernel) rfl, xT_m5 174 (by decide +kernel) rfl, by decide +kernel⟩
theorem xc_X7_296 : XCS RX7 296 yX7_partOf cX7_partOf 7 (some .long) 3 := ⟨xT_m5 172 (by decide +kernel) rfl, xm_X7_partOf.1, xm_X7_partOf.2.1, xm_X7_partOf.2.2.1, xm_X7_partOf.2.2.2⟩
theorem xm_X7_divisor : Cond.static yX7_divisor ∈ xT ∧ Cond.initialized yX7_divisor.cls ∈ xT ∧ Cond.code yX7_divisor cX7_divisor 10 (some .long) ∈ xT ∧ (yX7_divisor.cls ≠ "java/lang/invoke/MethodHandle" ∧ yX7_divisor.cls ≠ "java/lang/invoke/VarHandle" ∧ (parseMethodDescriptor yX7_divisor.desc).map (fun d => d.parameters.length) = some 2) := ⟨xT_m5 176 (by decide +kernel) rfl, xT_m1 7 (by decide +kernel) rfl, xT_m5 177 (by decide +kernel) rfl, by decide +kernel⟩
theorem xc_X7_290 : XCS RX7 290 yX7_divisor cX7_divisor 10 (some .long) 2 := ⟨xT_m5 175 (by decide +kernel) rfl, xm_X7_divisor.1, xm_X7_divisor.2.1, xm_X7_divisor.2.2.1, xm_X7_divisor.2.2.2⟩
theorem xm_X7_two : Cond.instanceMethod yX7_two ∈ xT ∧ Cond.selects RX7 yX7_two yX7_two ∈ xT ∧ Cond.initialized RX7 ∈ xT ∧ Cond.code yX7_two cX7_two 7 (some .int) ∈ xT ∧ (yX7_two.cls = RX7 ∧ yX7_two.cls ≠ "java/lang/invoke/MethodHandle" ∧ yX7_two.cls ≠ "java/lang/invoke/VarHandle" ∧ (parseMethodDescriptor yX7_two.desc).map (fun d => d.parameters.length) = some 2) := ⟨xT_m5 179 (by decide +kernel) rfl, xT_m5 180 (by decide +kernel) rfl, xT_m1 7 (by decide +kernel) rfl, xT_m5 181 (by decide +kernel) rfl, by decide +kernel⟩
theorem xc_L_133 : XCV RL 133 RX7 yX7_two cX7_two 7 (some .int) 2 := ⟨xT_m5 178 (by decide +kernel) rfl, xm_X7_two.1, xm_X7_two.2.1, xm_X7_two.2.2.1, xm_X7_two.2.2.2.1, xm_X7_two.2.2.2.2⟩
theorem xm_X7_whatWas : Cond.instanceMethod yX7_whatWas ∈ xT ∧ Cond.selects RX7 yX7_whatWas yX7_whatWas ∈ xT ∧ Cond.initialized RX7 ∈ xT ∧ Cond.code yX7_whatWas cX7_whatWas 6 (some .int) ∈ xT ∧ (yX7_whatWas.cls = RX7 ∧ yX7_whatWas.cls ≠ "java/lang/invoke/MethodHandle" ∧ yX7_whatWas.cls ≠ "java/lang/invoke/VarHandle" ∧ (parseMethodDescriptor yX7_whatWas.desc).map (fun d => d.parameters.length) = some 2) := ⟨xT_m5 183 (by decide +kernel) rfl, xT_m5 184 (by decide +kernel) rfl, xT_m1 7 (by decide +kernel) rfl, xT_m5 185 (by decide +kernel) rfl, by decide +kernel⟩
theorem xc_L_137 : XCV RL 137 RX7 yX7_whatWas cX7_whatWas 6 (some .int) 2 := ⟨xT_m5 182 (by decide +kernel) rfl, xm_X7_whatWas.1, xm_X7_whatWas.2.1, xm_X7_whatWas.2.2.1, xm_X7_whatWas.2.2.2.1, xm_X7_whatWas.2.2.2.2⟩
theorem xm_X7_whenBy : Cond.instanceMethod yX7_whenBy ∈ xT ∧ Cond.selects RX7 yX7_whenBy yX7_whenBy ∈ xT ∧ Cond.initialized RX7 ∈ xT ∧ Cond.code yX7_whenBy cX7_whenBy 7 (some .int) ∈ xT ∧ (yX7_whenBy.cls = RX7 ∧ yX7_whenBy.cls ≠ "java/lang/invoke/MethodHandle" ∧ yX7_whenBy.cls ≠ "java/lang/invoke/VarHandle" ∧ (parseMethodDescriptor yX7_whenBy.desc).map (fun d => d.parameters.length) = some 2) := ⟨xT_m5 188 (by decide +kernel) rfl, xT_m0 50 (by decide +kernel) rfl, xT_m1 7 (by decide +kernel) rfl, xT_m5 189 (by decide +kernel) rfl, by decide +kernel⟩
theorem xc_X7_307 : XCV RX7 307 RX7 yX7_whenBy cX7_whenBy 7 (some .int) 2 := ⟨xT_m5 186 (by decide +kernel) rfl, xm_X7_whenBy.1, xm_X7_whenBy.2.1, xm_X7_whenBy.2.2.1, xm_X7_whenBy.2.2.2.1, xm_X7_whenBy.2.2.2.2⟩
theorem xm_X7_isRow : Cond.instanceMethod yX7_isRow ∈ xT ∧ Cond.selects RX7 yX7_isRow yX7_isRow ∈ xT ∧ Cond.initialized RX7 ∈ xT ∧ Cond.code yX7_isRow cX7_isRow 3 (some .boolean) ∈ xT ∧ (yX7_isRow.cls = RX7 ∧ yX7_isRow.cls ≠ "java/lang/invoke/MethodHandle" ∧ yX7_isRow.cls ≠ "java/lang/invoke/VarHandle" ∧ (parseMethodDescriptor yX7_isRow.desc).map (fun d => d.parameters.length) = some 0) := ⟨xT_m5 192 (by decide +kernel) rfl, xT_m0 51 (by decide +kernel) rfl, xT_m1 7 (by decide +kernel) rfl, xT_m5 193 (by decide +kernel) rfl, by decide +kernel⟩
theorem xc_X7_303 : XCV RX7 303 RX7 yX7_isRow cX7_isRow 3 (some .boolean) 0 := ⟨xT_m5 190 (by decide +kernel) rfl, xm_X7_isRow.1, xm_X7_isRow.2.1, xm_X7_isRow.2.2.1, xm_X7_isRow.2.2.2.1, xm_X7_isRow.2.2.2.2⟩
theorem xm_X7_longest : Cond.instanceMethod yX7_longest ∈ xT ∧ Cond.selects RX7 yX7_longest yX7_longest ∈ xT ∧ Cond.initialized RX7 ∈ xT ∧ Cond.code yX7_longest cX7_longest 8 (some .int) ∈ xT ∧ (yX7_longest.cls = RX7 ∧ yX7_longest.cls ≠ "java/lang/invoke/MethodHandle" ∧ yX7_longest.cls ≠ "java/lang/invoke/VarHandle" ∧ (parseMethodDescriptor yX7_longest.desc).map (fun d => d.parameters.length) = some 1) := ⟨xT_m5 195 (by decide +kernel) rfl, xT_m5 196 (by decide +kernel) rfl, xT_m1 7 (by decide +kernel) rfl, xT_m5 197 (by decide +kernel) rfl, by decide +kernel⟩
theorem xc_L_141 : XCV RL 141 RX7 yX7_longest cX7_longest 8 (some .int) 1 := ⟨xT_m5 194 (by decide +kernel) rfl, xm_X7_longest.1, xm_X7_longest.2.1, xm_X7_longest.2.2.1, xm_X7_longest.2.2.2.1, xm_X7_longest.2.2.2.2⟩
theorem xm_X7_mean : Cond.instanceMethod yX7_mean ∈ xT ∧ Cond.selects RX7 yX7_mean yX7_mean ∈ xT ∧ Cond.initialized RX7 ∈ xT ∧ Cond.code yX7_mean cX7_mean 3 (some .long) ∈ xT ∧ (yX7_mean.cls = RX7 ∧ yX7_mean.cls ≠ "java/lang/invoke/MethodHandle" ∧ yX7_mean.cls ≠ "java/lang/invoke/VarHandle" ∧ (parseMethodDescriptor yX7_mean.desc).map (fun d => d.parameters.length) = some 1) := ⟨xT_m5 201 (by decide +kernel) rfl, xT_m5 202 (by decide +kernel) rfl, xT_m1 7 (by decide +kernel) rfl, xT_m5 203 (by decide +kernel) rfl, by decide +kernel⟩
theorem xc_L_146 : XCV RL 146 RX7 yX7_mean cX7_mean 3 (some .long) 1 := ⟨xT_m5 200 (by decide +kernel) rfl, xm_X7_mean.1, xm_X7_mean.2.1, xm_X7_mean.2.2.1, xm_X7_mean.2.2.2.1, xm_X7_mean.2.2.2.2⟩
theorem xm_X7_early : Cond.instanceMethod yX7_early ∈ xT ∧ Cond.selects RX7 yX7_early yX7_early ∈ xT ∧ Cond.initialized RX7 ∈ xT ∧ Cond.code yX7_early cX7_early 3 (some .int) ∈ xT ∧ (yX7_early.cls = RX7 ∧ yX7_early.cls ≠ "java/lang/invoke/MethodHandle" ∧ yX7_early.cls ≠ "java/lang/invoke/VarHandle" ∧ (parseMethodDescriptor yX7_early.desc).map (fun d => d.parameters.length) = some 0) := ⟨xT_m5 205 (by decide +kernel) rfl, xT_m5 206 (by decide +kernel) rfl, xT_m1 7 (by decide +kernel) rfl, xT_m5 207 (by decide +kernel) rfl, by decide +kernel⟩
theorem xc_L_150 : XCV RL 150 RX7 yX7_early cX7_early 3 (some .int) 0 := ⟨xT_m5 204 (by decide +kernel) rfl, xm_X7_early.1, xm_X7_early.2.1, xm_X7_early.2.2.1, xm_X7_early.2.2.2.1, xm_X7_early.2.2.2.2⟩
theorem xm_X7_worst : Cond.instanceMethod yX7_worst ∈ xT ∧ Cond.selects RX7 yX7_worst yX7_worst ∈ xT ∧ Cond.initialized RX7 ∈ xT ∧ Cond.code yX7_worst cX7_worst 4 (some .int) ∈ xT ∧ (yX7_worst.cls = RX7 ∧ yX7_worst.cls ≠ "java/lang/invoke/MethodHandle" ∧ yX7_worst.cls ≠ "java/lang/invoke/VarHandle" ∧ (parseMethodDescriptor yX7_worst.desc).map (fun d => d.parameters.length) = some 0) := ⟨xT_m5 209 (by decide +kernel) rfl, xT_m5 210 (by decide +kernel) rfl, xT_m1 7 (by decide +kernel) rfl, xT_m5 211 (by decide +kernel) rfl, by decide +kernel⟩
theorem xc_L_154 : XCV RL 154 RX7 yX7_worst cX7_worst 4 (some .int) 0 := ⟨xT_m5 208 (by decide +kernel) rfl, xm_X7_worst.1, xm_X7_worst.2.1, xm_X7_worst.2.2.1, xm_X7_worst.2.2.2.1, xm_X7_worst.2.2.2.2⟩
theorem xm_X7_idle : Cond.instanceMethod yX7_idle ∈ xT ∧ Cond.selects RX7 yX7_idle yX7_idle ∈ xT ∧ Cond.initialized RX7 ∈ xT ∧ Cond.code yX7_idle cX7_idle 4 (some .int) ∈ xT ∧ (yX7_idle.cls = RX7 ∧ yX7_idle.cls ≠ "java/lang/invoke/MethodHandle" ∧ yX7_idle.cls ≠ "java/lang/invoke/VarHandle" ∧ (parseMethodDescriptor yX7_idle.desc).map (fun d => d.parameters.length) = some 0) := ⟨xT_m5 213 (by decide +kernel) rfl, xT_m5 214 (by decide +kernel) rfl, xT_m1 7 (by decide +kernel) rfl, xT_m5 215 (by decide +kernel) rfl, by decide +kernel⟩
theorem xc_L_158 : XCV RL 158 RX7 yX7_idle cX7_idle 4 (some .int) 0 := ⟨xT_m5 212 (by decide +kernel) rfl, xm_X7_idle.1, xm_X7_idle.2.1, xm_X7_idle.2.2.1, xm_X7_idle.2.2.2.1, xm_X7_idle.2.2.2.2⟩
theorem xm_X7_span : Cond.instanceMethod yX7_span ∈ xT ∧ Cond.selects RX7 yX7_span yX7_span ∈ xT ∧ Cond.initialized RX7 ∈ xT ∧ Cond.code yX7_span cX7_span 3 (some .int) ∈ xT ∧ (yX7_span.cls = RX7 ∧ yX7_span.cls ≠ "java/lang/invoke/MethodHandle" ∧ yX7_span.cls ≠ "java/lang/invoke/VarHandle" ∧ (parseMethodDescriptor yX7_span.desc).map (fun d => d.parameters.length) = some 0) := ⟨xT_m5 217 (by decide +kernel) rfl, xT_m5 218 (by decide +kernel) rfl, xT_m1 7 (by decide +kernel) rfl, xT_m5 219 (by decide +kernel) rfl, by decide +kernel⟩
theorem xc_L_162 : XCV RL 162 RX7 yX7_span cX7_span 3 (some .int) 0 := ⟨xT_m5 216 (by decide +kernel) rfl, xm_X7_span.1, xm_X7_span.2.1, xm_X7_span.2.2.1, xm_X7_span.2.2.2.1, xm_X7_span.2.2.2.2⟩
theorem xm_X7_swap : Cond.instanceMethod yX7_swap ∈ xT ∧ Cond.selects RX7 yX7_swap yX7_swap ∈ xT ∧ Cond.initialized RX7 ∈ xT ∧ Cond.code yX7_swap cX7_swap 8 (some .int) ∈ xT ∧ (yX7_swap.cls = RX7 ∧ yX7_swap.cls ≠ "java/lang/invoke/MethodHandle" ∧ yX7_swap.cls ≠ "java/lang/invoke/VarHandle" ∧ (parseMethodDescriptor yX7_swap.desc).map (fun d => d.parameters.length) = some 0) := ⟨xT_m5 221 (by decide +kernel) rfl, xT_m5 222 (by decide +kernel) rfl, xT_m1 7 (by decide +kernel) rfl, xT_m5 223 (by decide +kernel) rfl, by decide +kernel⟩
theorem xc_L_166 : XCV RL 166 RX7 yX7_swap cX7_swap 8 (some .int) 0 := ⟨xT_m5 220 (by decide +kernel) rfl, xm_X7_swap.1, xm_X7_swap.2.1, xm_X7_swap.2.2.1, xm_X7_swap.2.2.2.1, xm_X7_swap.2.2.2.2⟩
theorem xm_X7_turned : Cond.instanceMethod yX7_turned ∈ xT ∧ Cond.selects RX7 yX7_turned yX7_turned ∈ xT ∧ Cond.initialized RX7 ∈ xT ∧ Cond.code yX7_turned cX7_turned 3 (some .int) ∈ xT ∧ (yX7_turned.cls = RX7 ∧ yX7_turned.cls ≠ "java/lang/invoke/MethodHandle" ∧ yX7_turned.cls ≠ "java/lang/invoke/VarHandle" ∧ (parseMethodDescriptor yX7_turned.desc).map (fun d => d.parameters.length) = some 0) := ⟨xT_m5 225 (by decide +kernel) rfl, xT_m5 226 (by decide +kernel) rfl, xT_m1 7 (by decide +kernel) rfl, xT_m5 227 (by decide +kernel) rfl, by decide +kernel⟩
theorem xc_L_170 : XCV RL 170 RX7 yX7_turned cX7_turned 3 (some .int) 0 := ⟨xT_m5 224 (by decide +kernel) rfl, xm_X7_turned.1, xm_X7_turned.2.1, xm_X7_turned.2.2.1, xm_X7_turned.2.2.2.1, xm_X7_turned.2.2.2.2⟩
theorem xm_X7_shift : Cond.instanceMethod yX7_shift ∈ xT ∧ Cond.selects RX7 yX7_shift yX7_shift ∈ xT ∧ Cond.initialized RX7 ∈ xT ∧ Cond.code yX7_shift cX7_shift 6 (some .int) ∈ xT ∧ (yX7_shift.cls = RX7 ∧ yX7_shift.cls ≠ "java/lang/invoke/MethodHandle" ∧ yX7_shift.cls ≠ "java/lang/invoke/VarHandle" ∧ (parseMethodDescriptor yX7_shift.desc).map (fun d => d.parameters.length) = some 0) := ⟨xT_m5 229 (by decide +kernel) rfl, xT_m5 230 (by decide +kernel) rfl, xT_m1 7 (by decide +kernel) rfl, xT_m5 231 (by decide +kernel) rfl, by decide +kernel⟩
theorem xc_L_174 : XCV RL 174 RX7 yX7_shift cX7_shift 6 (some .int) 0 := ⟨xT_m5 228 (by decide +kernel) rfl, xm_X7_shift.1, xm_X7_shift.2.1, xm_X7_shift.2.2.1, xm_X7_shift.2.2.2.1, xm_X7_shift.2.2.2.2⟩
theorem xm_X7_unwed : Cond.instanceMethod yX7_unwed ∈ xT ∧ Cond.selects RX7 yX7_unwed yX7_unwed ∈ xT ∧ Cond.initialized RX7 ∈ xT ∧ Cond.code yX7_unwed cX7_unwed 3 (some .int) ∈ xT ∧ (yX7_unwed.cls = RX7 ∧ yX7_unwed.cls ≠ "java/lang/invoke/MethodHandle" ∧ yX7_unwed.cls ≠ "java/lang/invoke/VarHandle" ∧ (parseMethodDescriptor yX7_unwed.desc).map (fun d => d.parameters.length) = some 0) := ⟨xT_m5 234 (by decide +kernel) rfl, xT_m0 52 (by decide +kernel) rfl, xT_m1 7 (by decide +kernel) rfl, xT_m5 235 (by decide +kernel) rfl, by decide +kernel⟩
theorem xc_X7_314 : XCV RX7 314 RX7 yX7_unwed cX7_unwed 3 (some .int) 0 := ⟨xT_m5 232 (by decide +kernel) rfl, xm_X7_unwed.1, xm_X7_unwed.2.1, xm_X7_unwed.2.2.1, xm_X7_unwed.2.2.2.1, xm_X7_unwed.2.2.2.2⟩
theorem xm_X7_row : Cond.instanceMethod yX7_row ∈ xT ∧ Cond.selects RX7 yX7_row yX7_row ∈ xT ∧ Cond.initialized RX7 ∈ xT ∧ Cond.code yX7_row cX7_row 2 (some .int) ∈ xT ∧ (yX7_row.cls = RX7 ∧ yX7_row.cls ≠ "java/lang/invoke/MethodHandle" ∧ yX7_row.cls ≠ "java/lang/invoke/VarHandle" ∧ (parseMethodDescriptor yX7_row.desc).map (fun d => d.parameters.length) = some 1) := ⟨xT_m5 237 (by decide +kernel) rfl, xT_m5 238 (by decide +kernel) rfl, xT_m1 7 (by decide +kernel) rfl, xT_m5 239 (by decide +kernel) rfl, by decide +kernel⟩
theorem xc_L_178 : XCV RL 178 RX7 yX7_row cX7_row 2 (some .int) 1 := ⟨xT_m5 236 (by decide +kernel) rfl, xm_X7_row.1, xm_X7_row.2.1, xm_X7_row.2.2.1, xm_X7_row.2.2.2.1, xm_X7_row.2.2.2.2⟩
theorem xm_X7_judge : Cond.instanceMethod yX7_judge ∈ xT ∧ Cond.selects RX7 yX7_judge yX7_judge ∈ xT ∧ Cond.initialized RX7 ∈ xT ∧ Cond.code yX7_judge cX7_judge 4 (some .int) ∈ xT ∧ (yX7_judge.cls = RX7 ∧ yX7_judge.cls ≠ "java/lang/invoke/MethodHandle" ∧ yX7_judge.cls ≠ "java/lang/invoke/VarHandle" ∧ (parseMethodDescriptor yX7_judge.desc).map (fun d => d.parameters.length) = some 0) := ⟨xT_m6 1 (by decide +kernel) rfl, xT_m6 2 (by decide +kernel) rfl, xT_m1 7 (by decide +kernel) rfl, xT_m6 3 (by decide +kernel) rfl, by decide +kernel⟩
theorem xc_L_182 : XCV RL 182 RX7 yX7_judge cX7_judge 4 (some .int) 0 := ⟨xT_m6 0 (by decide +kernel) rfl, xm_X7_judge.1, xm_X7_judge.2.1, xm_X7_judge.2.2.1, xm_X7_judge.2.2.2.1, xm_X7_judge.2.2.2.2⟩
theorem xm_X7_clear : Cond.instanceMethod yX7_clear ∈ xT ∧ Cond.selects RX7 yX7_clear yX7_clear ∈ xT ∧ Cond.initialized RX7 ∈ xT ∧ Cond.code yX7_clear cX7_clear 2 (some .int) ∈ xT ∧ (yX7_clear.cls = RX7 ∧ yX7_clear.cls ≠ "java/lang/invoke/MethodHandle" ∧ yX7_clear.cls ≠ "java/lang/invoke/VarHandle" ∧ (parseMethodDescriptor yX7_clear.desc).map (fun d => d.parameters.length) = some 0) := ⟨xT_m6 5 (by decide +kernel) rfl, xT_m6 6 (by decide +kernel) rfl, xT_m1 7 (by decide +kernel) rfl, xT_m6 7 (by decide +kernel) rfl, by decide +kernel⟩
theorem xc_L_186 : XCV RL 186 RX7 yX7_clear cX7_clear 2 (some .int) 0 := ⟨xT_m6 4 (by decide +kernel) rfl, xm_X7_clear.1, xm_X7_clear.2.1, xm_X7_clear.2.2.1, xm_X7_clear.2.2.2.1, xm_X7_clear.2.2.2.2⟩
theorem xm_X7_lots : Cond.instanceMethod yX7_lots ∈ xT ∧ Cond.selects RX7 yX7_lots yX7_lots ∈ xT ∧ Cond.initialized RX7 ∈ xT ∧ Cond.code yX7_lots cX7_lots 8 (some .int) ∈ xT ∧ (yX7_lots.cls = RX7 ∧ yX7_lots.cls ≠ "java/lang/invoke/MethodHandle" ∧ yX7_lots.cls ≠ "java/lang/invoke/VarHandle" ∧ (parseMethodDescriptor yX7_lots.desc).map (fun d => d.parameters.length) = some 3) := ⟨xT_m6 9 (by decide +kernel) rfl, xT_m6 10 (by decide +kernel) rfl, xT_m1 7 (by decide +kernel) rfl, xT_m6 11 (by decide +kernel) rfl, by decide +kernel⟩
theorem xc_L_190 : XCV RL 190 RX7 yX7_lots cX7_lots 8 (some .int) 3 := ⟨xT_m6 8 (by decide +kernel) rfl, xm_X7_lots.1, xm_X7_lots.2.1, xm_X7_lots.2.2.1, xm_X7_lots.2.2.2.1, xm_X7_lots.2.2.2.2⟩
theorem xm_X7_drawBelow : Cond.instanceMethod yX7_drawBelow ∈ xT ∧ Cond.selects RX7 yX7_drawBelow yX7_drawBelow ∈ xT ∧ Cond.initialized RX7 ∈ xT ∧ Cond.code yX7_drawBelow cX7_drawBelow 2 (some .int) ∈ xT ∧ (yX7_drawBelow.cls = RX7 ∧ yX7_drawBelow.cls ≠ "java/lang/invoke/MethodHandle" ∧ yX7_drawBelow.cls ≠ "java/lang/invoke/VarHandle" ∧ (parseMethodDescriptor yX7_drawBelow.desc).map (fun d => d.parameters.length) = some 1) := ⟨xT_m6 14 (by decide +kernel) rfl, xT_m0 53 (by decide +kernel) rfl, xT_m1 7 (by decide +kernel) rfl, xT_m6 15 (by decide +kernel) rfl, by decide +kernel⟩
theorem xc_X7_323 : XCV RX7 323 RX7 yX7_drawBelow cX7_drawBelow 2 (some .int) 1 := ⟨xT_m6 12 (by decide +kernel) rfl, xm_X7_drawBelow.1, xm_X7_drawBelow.2.1, xm_X7_drawBelow.2.2.1, xm_X7_drawBelow.2.2.2.1, xm_X7_drawBelow.2.2.2.2⟩
theorem xm_X7_count : Cond.instanceMethod yX7_count ∈ xT ∧ Cond.selects RX7 yX7_count yX7_count ∈ xT ∧ Cond.initialized RX7 ∈ xT ∧ Cond.code yX7_count cX7_count 2 (some .int) ∈ xT ∧ (yX7_count.cls = RX7 ∧ yX7_count.cls ≠ "java/lang/invoke/MethodHandle" ∧ yX7_count.cls ≠ "java/lang/invoke/VarHandle" ∧ (parseMethodDescriptor yX7_count.desc).map (fun d => d.parameters.length) = some 1) := ⟨xT_m6 20 (by decide +kernel) rfl, xT_m6 21 (by decide +kernel) rfl, xT_m1 7 (by decide +kernel) rfl, xT_m6 22 (by decide +kernel) rfl, by decide +kernel⟩
theorem xc_L_202 : XCV RL 202 RX7 yX7_count cX7_count 2 (some .int) 1 := ⟨xT_m6 19 (by decide +kernel) rfl, xm_X7_count.1, xm_X7_count.2.1, xm_X7_count.2.2.1, xm_X7_count.2.2.2.1, xm_X7_count.2.2.2.2⟩
theorem xk_X6_196 : Cond.constant RX6 196 (1000000000) ∈ xT := xT_m2 200 (by decide +kernel) rfl
theorem xk_X0_39 : Cond.constant RX0 39 (1000000000) ∈ xT := xT_m3 10 (by decide +kernel) rfl
theorem xk_X6_246 : Cond.constantLong RX6 246 (4000000000000000000) ∈ xT := xT_m3 84 (by decide +kernel) rfl
theorem xk_J6_265 : Cond.constant RJ6 265 (1431655765) ∈ xT := xT_m3 90 (by decide +kernel) rfl
theorem xk_J6_266 : Cond.constant RJ6 266 (858993459) ∈ xT := xT_m3 91 (by decide +kernel) rfl
theorem xk_J6_267 : Cond.constant RJ6 267 (252645135) ∈ xT := xT_m3 92 (by decide +kernel) rfl
theorem xk_X6_303 : Cond.constant RX6 303 (1103515245) ∈ xT := xT_m3 208 (by decide +kernel) rfl
theorem xk_X6_304 : Cond.constant RX6 304 (2147483647) ∈ xT := xT_m3 209 (by decide +kernel) rfl
theorem xk_X6_305 : Cond.constant RX6 305 (65536) ∈ xT := xT_m3 210 (by decide +kernel) rfl
theorem xk_X7_154 : Cond.constantLong RX7 154 (48) ∈ xT := xT_m4 134 (by decide +kernel) rfl
theorem xk_X7_156 : Cond.constantLong RX7 156 (57) ∈ xT := xT_m4 135 (by decide +kernel) rfl
theorem xk_X7_126 : Cond.constantLong RX7 126 (2) ∈ xT := xT_m4 159 (by decide +kernel) rfl
theorem xk_X7_168 : Cond.constantLong RX7 168 (7) ∈ xT := xT_m4 180 (by decide +kernel) rfl
theorem xk_X7_186 : Cond.constantLong RX7 186 (30) ∈ xT := xT_m4 202 (by decide +kernel) rfl
theorem xk_X7_231 : Cond.constantLong RX7 231 (5) ∈ xT := xT_m5 7 (by decide +kernel) rfl
theorem xk_X7_246 : Cond.constant RX7 246 (1000000000) ∈ xT := xT_m5 54 (by decide +kernel) rfl
theorem xk_X7_124 : Cond.constantLong RX7 124 (-2) ∈ xT := xT_m5 82 (by decide +kernel) rfl
theorem xk_X7_286 : Cond.constantLong RX7 286 (-19) ∈ xT := xT_m5 165 (by decide +kernel) rfl
theorem xk_X7_288 : Cond.constantLong RX7 288 (19) ∈ xT := xT_m5 166 (by decide +kernel) rfl
theorem xk_X7_294 : Cond.constantLong RX7 294 (4000000000000000000) ∈ xT := xT_m5 171 (by decide +kernel) rfl
theorem xk_X7_310 : Cond.constantLong RX7 310 (-14) ∈ xT := xT_m5 198 (by decide +kernel) rfl
theorem xk_X7_312 : Cond.constantLong RX7 312 (14) ∈ xT := xT_m5 199 (by decide +kernel) rfl
theorem xk_X7_320 : Cond.constant RX7 320 (1103515245) ∈ xT := xT_m6 16 (by decide +kernel) rfl
theorem xk_X7_321 : Cond.constant RX7 321 (2147483647) ∈ xT := xT_m6 17 (by decide +kernel) rfl
theorem xk_X7_322 : Cond.constant RX7 322 (65536) ∈ xT := xT_m6 18 (by decide +kernel) rfl
theorem xk_X7_326 : Cond.constantLong RX7 326 (11) ∈ xT := xT_m6 23 (by decide +kernel) rfl
theorem xk_X7_328 : Cond.constantLong RX7 328 (16) ∈ xT := xT_m6 24 (by decide +kernel) rfl
end
