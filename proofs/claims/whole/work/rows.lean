section
-- ===== PART A: goes FIRST, ahead of the names: the tables' words, and 'selects' of the private methods out of them =====
/-- a private method of a class that the tables say can be made, by its rows of tables_1 -/
def lw_okq (q : MethodName × Nat) : Prop := (q.1.cls ≠ "java/lang/invoke/MethodHandle" ∧ q.1.cls ≠ "java/lang/invoke/VarHandle") ∧ Cond.instantiable q.1.cls q.2 ∈ tables_1 ∧ Cond.privateMethod q.1 ∈ tables_1 ∧ Cond.instanceMethod q.1 ∈ tables_1
theorem lw_p0 : lw_okq (⟨"LectureTurns$Turns", "placeFor", "(I)I"⟩, 7) := ⟨⟨by decide +kernel, by decide +kernel⟩, List.mem_of_getElem? (i := 33) (by decide +kernel), List.mem_of_getElem? (i := 284) (by decide +kernel), List.mem_of_getElem? (i := 285) (by decide +kernel)⟩
theorem lw_p1 : lw_okq (⟨"LectureTurns$Turns", "moveRows", "(II)V"⟩, 7) := ⟨⟨by decide +kernel, by decide +kernel⟩, List.mem_of_getElem? (i := 33) (by decide +kernel), List.mem_of_getElem? (i := 288) (by decide +kernel), List.mem_of_getElem? (i := 289) (by decide +kernel)⟩
theorem lw_p2 : lw_okq (⟨"LectureTurns", "recorded", "(I)I"⟩, 6) := ⟨⟨by decide +kernel, by decide +kernel⟩, List.mem_of_getElem? (i := 19) (by decide +kernel), List.mem_of_getElem? (i := 292) (by decide +kernel), List.mem_of_getElem? (i := 293) (by decide +kernel)⟩
theorem lw_p3 : lw_okq (⟨"LectureTurns$History", "stateAt", "(I)LLectureTurns$Transcript;"⟩, 3) := ⟨⟨by decide +kernel, by decide +kernel⟩, List.mem_of_getElem? (i := 101) (by decide +kernel), List.mem_of_getElem? (i := 300) (by decide +kernel), List.mem_of_getElem? (i := 301) (by decide +kernel)⟩
theorem lw_p4 : lw_okq (⟨"LectureTurns$Turns", "sumOf", "([II)I"⟩, 7) := ⟨⟨by decide +kernel, by decide +kernel⟩, List.mem_of_getElem? (i := 33) (by decide +kernel), List.mem_of_getElem? (i := 487) (by decide +kernel), List.mem_of_getElem? (i := 488) (by decide +kernel)⟩
theorem lw_p5 : lw_okq (⟨"LectureTurns$Survey", "placesShowing", "(I)I"⟩, 5) := ⟨⟨by decide +kernel, by decide +kernel⟩, List.mem_of_getElem? (i := 120) (by decide +kernel), List.mem_of_getElem? (i := 593) (by decide +kernel), List.mem_of_getElem? (i := 594) (by decide +kernel)⟩
theorem lw_p6 : lw_okq (⟨"LectureTurns$Survey", "turnsShowing", "(I)I"⟩, 5) := ⟨⟨by decide +kernel, by decide +kernel⟩, List.mem_of_getElem? (i := 120) (by decide +kernel), List.mem_of_getElem? (i := 598) (by decide +kernel), List.mem_of_getElem? (i := 599) (by decide +kernel)⟩
theorem lw_p7 : lw_okq (⟨"LectureTurns$Survey", "isShownIn", "(II)Z"⟩, 5) := ⟨⟨by decide +kernel, by decide +kernel⟩, List.mem_of_getElem? (i := 120) (by decide +kernel), List.mem_of_getElem? (i := 603) (by decide +kernel), List.mem_of_getElem? (i := 604) (by decide +kernel)⟩
theorem lw_p8 : lw_okq (⟨"LectureTurns$Survey", "shownIn", "(I)I"⟩, 5) := ⟨⟨by decide +kernel, by decide +kernel⟩, List.mem_of_getElem? (i := 120) (by decide +kernel), List.mem_of_getElem? (i := 607) (by decide +kernel), List.mem_of_getElem? (i := 608) (by decide +kernel)⟩
theorem lw_p9 : lw_okq (⟨"LectureTurns$Survey", "speakersShowing", "(I)I"⟩, 5) := ⟨⟨by decide +kernel, by decide +kernel⟩, List.mem_of_getElem? (i := 120) (by decide +kernel), List.mem_of_getElem? (i := 611) (by decide +kernel), List.mem_of_getElem? (i := 612) (by decide +kernel)⟩
theorem lw_p10 : lw_okq (⟨"LectureTurns$Survey", "termsShownBy", "(I)I"⟩, 5) := ⟨⟨by decide +kernel, by decide +kernel⟩, List.mem_of_getElem? (i := 120) (by decide +kernel), List.mem_of_getElem? (i := 635) (by decide +kernel), List.mem_of_getElem? (i := 636) (by decide +kernel)⟩
theorem lw_p11 : lw_okq (⟨"LectureTurns$Survey", "interruptionsBy", "(I)I"⟩, 5) := ⟨⟨by decide +kernel, by decide +kernel⟩, List.mem_of_getElem? (i := 120) (by decide +kernel), List.mem_of_getElem? (i := 639) (by decide +kernel), List.mem_of_getElem? (i := 640) (by decide +kernel)⟩
theorem lw_p12 : lw_okq (⟨"LectureTurns$Survey", "interruptionsOf", "(I)I"⟩, 5) := ⟨⟨by decide +kernel, by decide +kernel⟩, List.mem_of_getElem? (i := 120) (by decide +kernel), List.mem_of_getElem? (i := 647) (by decide +kernel), List.mem_of_getElem? (i := 648) (by decide +kernel)⟩
theorem lw_p13 : lw_okq (⟨"LectureTurns$Survey", "bitsOfTermsByMinute", "(I)I"⟩, 5) := ⟨⟨by decide +kernel, by decide +kernel⟩, List.mem_of_getElem? (i := 120) (by decide +kernel), List.mem_of_getElem? (i := 651) (by decide +kernel), List.mem_of_getElem? (i := 652) (by decide +kernel)⟩
theorem lw_p14 : lw_okq (⟨"LectureTurns$Survey", "noteShownSets", "()V"⟩, 5) := ⟨⟨by decide +kernel, by decide +kernel⟩, List.mem_of_getElem? (i := 120) (by decide +kernel), List.mem_of_getElem? (i := 720) (by decide +kernel), List.mem_of_getElem? (i := 721) (by decide +kernel)⟩
theorem lw_p15 : lw_okq (⟨"LectureTurns$Survey", "turnsWithBoth", "(II)I"⟩, 5) := ⟨⟨by decide +kernel, by decide +kernel⟩, List.mem_of_getElem? (i := 120) (by decide +kernel), List.mem_of_getElem? (i := 724) (by decide +kernel), List.mem_of_getElem? (i := 725) (by decide +kernel)⟩
def lw_privs_1 : List (MethodName × Nat) := [(⟨"LectureTurns$Turns", "placeFor", "(I)I"⟩, 7), (⟨"LectureTurns$Turns", "moveRows", "(II)V"⟩, 7), (⟨"LectureTurns", "recorded", "(I)I"⟩, 6), (⟨"LectureTurns$History", "stateAt", "(I)LLectureTurns$Transcript;"⟩, 3), (⟨"LectureTurns$Turns", "sumOf", "([II)I"⟩, 7), (⟨"LectureTurns$Survey", "placesShowing", "(I)I"⟩, 5), (⟨"LectureTurns$Survey", "turnsShowing", "(I)I"⟩, 5), (⟨"LectureTurns$Survey", "isShownIn", "(II)Z"⟩, 5), (⟨"LectureTurns$Survey", "shownIn", "(I)I"⟩, 5), (⟨"LectureTurns$Survey", "speakersShowing", "(I)I"⟩, 5), (⟨"LectureTurns$Survey", "termsShownBy", "(I)I"⟩, 5), (⟨"LectureTurns$Survey", "interruptionsBy", "(I)I"⟩, 5), (⟨"LectureTurns$Survey", "interruptionsOf", "(I)I"⟩, 5), (⟨"LectureTurns$Survey", "bitsOfTermsByMinute", "(I)I"⟩, 5), (⟨"LectureTurns$Survey", "noteShownSets", "()V"⟩, 5), (⟨"LectureTurns$Survey", "turnsWithBoth", "(II)I"⟩, 5)]
theorem lw_r1 : ∀ q ∈ lw_privs_1, lw_okq q := List.forall_mem_cons.mpr ⟨lw_p0, List.forall_mem_cons.mpr ⟨lw_p1, List.forall_mem_cons.mpr ⟨lw_p2, List.forall_mem_cons.mpr ⟨lw_p3, List.forall_mem_cons.mpr ⟨lw_p4, List.forall_mem_cons.mpr ⟨lw_p5, List.forall_mem_cons.mpr ⟨lw_p6, List.forall_mem_cons.mpr ⟨lw_p7, List.forall_mem_cons.mpr ⟨lw_p8, List.forall_mem_cons.mpr ⟨lw_p9, List.forall_mem_cons.mpr ⟨lw_p10, List.forall_mem_cons.mpr ⟨lw_p11, List.forall_mem_cons.mpr ⟨lw_p12, List.forall_mem_cons.mpr ⟨lw_p13, List.forall_mem_cons.mpr ⟨lw_p14, List.forall_mem_cons.mpr ⟨lw_p15, fun _ h => absurd h List.not_mem_nil⟩⟩⟩⟩⟩⟩⟩⟩⟩⟩⟩⟩⟩⟩⟩⟩
theorem lw_p16 : lw_okq (⟨"LectureTurns$Order", "readNumber", "(LLectureTurns$Text;II)Z"⟩, 4) := ⟨⟨by decide +kernel, by decide +kernel⟩, List.mem_of_getElem? (i := 163) (by decide +kernel), List.mem_of_getElem? (i := 858) (by decide +kernel), List.mem_of_getElem? (i := 859) (by decide +kernel)⟩
theorem lw_p17 : lw_okq (⟨"LectureTurns$Review", "noteAnswer", "(I)V"⟩, 7) := ⟨⟨by decide +kernel, by decide +kernel⟩, List.mem_of_getElem? (i := 155) (by decide +kernel), List.mem_of_getElem? (i := 877) (by decide +kernel), List.mem_of_getElem? (i := 878) (by decide +kernel)⟩
theorem lw_p18 : lw_okq (⟨"LectureTurnsModel", "changes", "()V"⟩, 16) := ⟨⟨by decide +kernel, by decide +kernel⟩, List.mem_of_getElem? (i := 914) (by decide +kernel), List.mem_of_getElem? (i := 978) (by decide +kernel), List.mem_of_getElem? (i := 979) (by decide +kernel)⟩
theorem lw_p19 : lw_okq (⟨"LectureTurnsModel", "opens", "(I)I"⟩, 16) := ⟨⟨by decide +kernel, by decide +kernel⟩, List.mem_of_getElem? (i := 914) (by decide +kernel), List.mem_of_getElem? (i := 982) (by decide +kernel), List.mem_of_getElem? (i := 983) (by decide +kernel)⟩
theorem lw_p20 : lw_okq (⟨"LectureTurnsModel", "of", "(II)I"⟩, 16) := ⟨⟨by decide +kernel, by decide +kernel⟩, List.mem_of_getElem? (i := 914) (by decide +kernel), List.mem_of_getElem? (i := 986) (by decide +kernel), List.mem_of_getElem? (i := 987) (by decide +kernel)⟩
theorem lw_p21 : lw_okq (⟨"LectureTurnsModel", "sets", "(III)V"⟩, 16) := ⟨⟨by decide +kernel, by decide +kernel⟩, List.mem_of_getElem? (i := 914) (by decide +kernel), List.mem_of_getElem? (i := 990) (by decide +kernel), List.mem_of_getElem? (i := 991) (by decide +kernel)⟩
theorem lw_p22 : lw_okq (⟨"LectureTurnsModel", "voiceFor", "(I)I"⟩, 16) := ⟨⟨by decide +kernel, by decide +kernel⟩, List.mem_of_getElem? (i := 914) (by decide +kernel), List.mem_of_getElem? (i := 994) (by decide +kernel), List.mem_of_getElem? (i := 995) (by decide +kernel)⟩
theorem lw_p23 : lw_okq (⟨"LectureTurnsModel", "isTurn", "(I)Z"⟩, 16) := ⟨⟨by decide +kernel, by decide +kernel⟩, List.mem_of_getElem? (i := 914) (by decide +kernel), List.mem_of_getElem? (i := 1005) (by decide +kernel), List.mem_of_getElem? (i := 1006) (by decide +kernel)⟩
theorem lw_p24 : lw_okq (⟨"LectureTurnsModel", "mayCorrect", "(II)I"⟩, 16) := ⟨⟨by decide +kernel, by decide +kernel⟩, List.mem_of_getElem? (i := 914) (by decide +kernel), List.mem_of_getElem? (i := 1024) (by decide +kernel), List.mem_of_getElem? (i := 1025) (by decide +kernel)⟩
theorem lw_p25 : lw_okq (⟨"LectureTurnsModel", "isOn", "(II)Z"⟩, 16) := ⟨⟨by decide +kernel, by decide +kernel⟩, List.mem_of_getElem? (i := 914) (by decide +kernel), List.mem_of_getElem? (i := 1028) (by decide +kernel), List.mem_of_getElem? (i := 1029) (by decide +kernel)⟩
theorem lw_p26 : lw_okq (⟨"LectureTurnsModel", "turnsTo", "(IIZ)I"⟩, 16) := ⟨⟨by decide +kernel, by decide +kernel⟩, List.mem_of_getElem? (i := 914) (by decide +kernel), List.mem_of_getElem? (i := 1033) (by decide +kernel), List.mem_of_getElem? (i := 1034) (by decide +kernel)⟩
theorem lw_p27 : lw_okq (⟨"LectureTurnsModel", "shown", "(I)I"⟩, 16) := ⟨⟨by decide +kernel, by decide +kernel⟩, List.mem_of_getElem? (i := 914) (by decide +kernel), List.mem_of_getElem? (i := 1037) (by decide +kernel), List.mem_of_getElem? (i := 1038) (by decide +kernel)⟩
theorem lw_p28 : lw_okq (⟨"LectureTurnsModel", "isVoice", "(I)Z"⟩, 16) := ⟨⟨by decide +kernel, by decide +kernel⟩, List.mem_of_getElem? (i := 914) (by decide +kernel), List.mem_of_getElem? (i := 1053) (by decide +kernel), List.mem_of_getElem? (i := 1054) (by decide +kernel)⟩
theorem lw_p29 : lw_okq (⟨"LectureTurnsModel", "tunes", "(I)V"⟩, 16) := ⟨⟨by decide +kernel, by decide +kernel⟩, List.mem_of_getElem? (i := 914) (by decide +kernel), List.mem_of_getElem? (i := 1057) (by decide +kernel), List.mem_of_getElem? (i := 1058) (by decide +kernel)⟩
theorem lw_p30 : lw_okq (⟨"LectureTurnsModel", "turnsOf", "(I)I"⟩, 16) := ⟨⟨by decide +kernel, by decide +kernel⟩, List.mem_of_getElem? (i := 914) (by decide +kernel), List.mem_of_getElem? (i := 1061) (by decide +kernel), List.mem_of_getElem? (i := 1062) (by decide +kernel)⟩
theorem lw_p31 : lw_okq (⟨"LectureTurnsModel", "overlapping", "(IZ)I"⟩, 16) := ⟨⟨by decide +kernel, by decide +kernel⟩, List.mem_of_getElem? (i := 914) (by decide +kernel), List.mem_of_getElem? (i := 1078) (by decide +kernel), List.mem_of_getElem? (i := 1079) (by decide +kernel)⟩
def lw_privs_2 : List (MethodName × Nat) := [(⟨"LectureTurns$Order", "readNumber", "(LLectureTurns$Text;II)Z"⟩, 4), (⟨"LectureTurns$Review", "noteAnswer", "(I)V"⟩, 7), (⟨"LectureTurnsModel", "changes", "()V"⟩, 16), (⟨"LectureTurnsModel", "opens", "(I)I"⟩, 16), (⟨"LectureTurnsModel", "of", "(II)I"⟩, 16), (⟨"LectureTurnsModel", "sets", "(III)V"⟩, 16), (⟨"LectureTurnsModel", "voiceFor", "(I)I"⟩, 16), (⟨"LectureTurnsModel", "isTurn", "(I)Z"⟩, 16), (⟨"LectureTurnsModel", "mayCorrect", "(II)I"⟩, 16), (⟨"LectureTurnsModel", "isOn", "(II)Z"⟩, 16), (⟨"LectureTurnsModel", "turnsTo", "(IIZ)I"⟩, 16), (⟨"LectureTurnsModel", "shown", "(I)I"⟩, 16), (⟨"LectureTurnsModel", "isVoice", "(I)Z"⟩, 16), (⟨"LectureTurnsModel", "tunes", "(I)V"⟩, 16), (⟨"LectureTurnsModel", "turnsOf", "(I)I"⟩, 16), (⟨"LectureTurnsModel", "overlapping", "(IZ)I"⟩, 16)]
theorem lw_r2 : ∀ q ∈ lw_privs_2, lw_okq q := List.forall_mem_cons.mpr ⟨lw_p16, List.forall_mem_cons.mpr ⟨lw_p17, List.forall_mem_cons.mpr ⟨lw_p18, List.forall_mem_cons.mpr ⟨lw_p19, List.forall_mem_cons.mpr ⟨lw_p20, List.forall_mem_cons.mpr ⟨lw_p21, List.forall_mem_cons.mpr ⟨lw_p22, List.forall_mem_cons.mpr ⟨lw_p23, List.forall_mem_cons.mpr ⟨lw_p24, List.forall_mem_cons.mpr ⟨lw_p25, List.forall_mem_cons.mpr ⟨lw_p26, List.forall_mem_cons.mpr ⟨lw_p27, List.forall_mem_cons.mpr ⟨lw_p28, List.forall_mem_cons.mpr ⟨lw_p29, List.forall_mem_cons.mpr ⟨lw_p30, List.forall_mem_cons.mpr ⟨lw_p31, fun _ h => absurd h List.not_mem_nil⟩⟩⟩⟩⟩⟩⟩⟩⟩⟩⟩⟩⟩⟩⟩⟩
theorem lw_p32 : lw_okq (⟨"LectureTurnsModel", "interrupt", "(II)Z"⟩, 16) := ⟨⟨by decide +kernel, by decide +kernel⟩, List.mem_of_getElem? (i := 914) (by decide +kernel), List.mem_of_getElem? (i := 1082) (by decide +kernel), List.mem_of_getElem? (i := 1083) (by decide +kernel)⟩
theorem lw_p33 : lw_okq (⟨"LectureTurnsModel", "overlap", "(II)Z"⟩, 16) := ⟨⟨by decide +kernel, by decide +kernel⟩, List.mem_of_getElem? (i := 914) (by decide +kernel), List.mem_of_getElem? (i := 1086) (by decide +kernel), List.mem_of_getElem? (i := 1087) (by decide +kernel)⟩
theorem lw_p34 : lw_okq (⟨"LectureTurnsModel", "alone", "(I)I"⟩, 16) := ⟨⟨by decide +kernel, by decide +kernel⟩, List.mem_of_getElem? (i := 914) (by decide +kernel), List.mem_of_getElem? (i := 1090) (by decide +kernel), List.mem_of_getElem? (i := 1091) (by decide +kernel)⟩
theorem lw_p35 : lw_okq (⟨"LectureTurnsModel", "going", "(I)I"⟩, 16) := ⟨⟨by decide +kernel, by decide +kernel⟩, List.mem_of_getElem? (i := 914) (by decide +kernel), List.mem_of_getElem? (i := 1094) (by decide +kernel), List.mem_of_getElem? (i := 1095) (by decide +kernel)⟩
theorem lw_p36 : lw_okq (⟨"LectureTurnsModel", "goesOn", "(II)Z"⟩, 16) := ⟨⟨by decide +kernel, by decide +kernel⟩, List.mem_of_getElem? (i := 914) (by decide +kernel), List.mem_of_getElem? (i := 1098) (by decide +kernel), List.mem_of_getElem? (i := 1099) (by decide +kernel)⟩
theorem lw_p37 : lw_okq (⟨"LectureTurnsModel", "chain", "(I)I"⟩, 16) := ⟨⟨by decide +kernel, by decide +kernel⟩, List.mem_of_getElem? (i := 914) (by decide +kernel), List.mem_of_getElem? (i := 1110) (by decide +kernel), List.mem_of_getElem? (i := 1111) (by decide +kernel)⟩
theorem lw_p38 : lw_okq (⟨"LectureTurnsModel", "shownAs", "(I)I"⟩, 16) := ⟨⟨by decide +kernel, by decide +kernel⟩, List.mem_of_getElem? (i := 914) (by decide +kernel), List.mem_of_getElem? (i := 1114) (by decide +kernel), List.mem_of_getElem? (i := 1115) (by decide +kernel)⟩
theorem lw_p39 : lw_okq (⟨"LectureTurnsModel", "showing", "(II)I"⟩, 16) := ⟨⟨by decide +kernel, by decide +kernel⟩, List.mem_of_getElem? (i := 914) (by decide +kernel), List.mem_of_getElem? (i := 1118) (by decide +kernel), List.mem_of_getElem? (i := 1119) (by decide +kernel)⟩
theorem lw_p40 : lw_okq (⟨"LectureTurnsModel", "shows", "(II)I"⟩, 16) := ⟨⟨by decide +kernel, by decide +kernel⟩, List.mem_of_getElem? (i := 914) (by decide +kernel), List.mem_of_getElem? (i := 1122) (by decide +kernel), List.mem_of_getElem? (i := 1123) (by decide +kernel)⟩
theorem lw_p41 : lw_okq (⟨"LectureTurnsModel", "secondsOf", "(I)I"⟩, 16) := ⟨⟨by decide +kernel, by decide +kernel⟩, List.mem_of_getElem? (i := 914) (by decide +kernel), List.mem_of_getElem? (i := 1130) (by decide +kernel), List.mem_of_getElem? (i := 1131) (by decide +kernel)⟩
theorem lw_p42 : lw_okq (⟨"LectureTurnsModel", "termsOf", "(IZ)I"⟩, 16) := ⟨⟨by decide +kernel, by decide +kernel⟩, List.mem_of_getElem? (i := 914) (by decide +kernel), List.mem_of_getElem? (i := 1134) (by decide +kernel), List.mem_of_getElem? (i := 1135) (by decide +kernel)⟩
theorem lw_p43 : lw_okq (⟨"LectureTurnsModel", "often", "(II)I"⟩, 16) := ⟨⟨by decide +kernel, by decide +kernel⟩, List.mem_of_getElem? (i := 914) (by decide +kernel), List.mem_of_getElem? (i := 1138) (by decide +kernel), List.mem_of_getElem? (i := 1139) (by decide +kernel)⟩
theorem lw_p44 : lw_okq (⟨"LectureTurnsModel", "byMinute", "(I)I"⟩, 16) := ⟨⟨by decide +kernel, by decide +kernel⟩, List.mem_of_getElem? (i := 914) (by decide +kernel), List.mem_of_getElem? (i := 1142) (by decide +kernel), List.mem_of_getElem? (i := 1143) (by decide +kernel)⟩
theorem lw_p45 : lw_okq (⟨"LectureTurnsModel", "voices", "(I)I"⟩, 16) := ⟨⟨by decide +kernel, by decide +kernel⟩, List.mem_of_getElem? (i := 914) (by decide +kernel), List.mem_of_getElem? (i := 1161) (by decide +kernel), List.mem_of_getElem? (i := 1162) (by decide +kernel)⟩
theorem lw_p46 : lw_okq (⟨"LectureTurnsModel", "both", "(II)I"⟩, 16) := ⟨⟨by decide +kernel, by decide +kernel⟩, List.mem_of_getElem? (i := 914) (by decide +kernel), List.mem_of_getElem? (i := 1181) (by decide +kernel), List.mem_of_getElem? (i := 1182) (by decide +kernel)⟩
theorem lw_p47 : lw_okq (⟨"LectureTurnsModel", "lastEnd", "()I"⟩, 16) := ⟨⟨by decide +kernel, by decide +kernel⟩, List.mem_of_getElem? (i := 914) (by decide +kernel), List.mem_of_getElem? (i := 1189) (by decide +kernel), List.mem_of_getElem? (i := 1190) (by decide +kernel)⟩
def lw_privs_3 : List (MethodName × Nat) := [(⟨"LectureTurnsModel", "interrupt", "(II)Z"⟩, 16), (⟨"LectureTurnsModel", "overlap", "(II)Z"⟩, 16), (⟨"LectureTurnsModel", "alone", "(I)I"⟩, 16), (⟨"LectureTurnsModel", "going", "(I)I"⟩, 16), (⟨"LectureTurnsModel", "goesOn", "(II)Z"⟩, 16), (⟨"LectureTurnsModel", "chain", "(I)I"⟩, 16), (⟨"LectureTurnsModel", "shownAs", "(I)I"⟩, 16), (⟨"LectureTurnsModel", "showing", "(II)I"⟩, 16), (⟨"LectureTurnsModel", "shows", "(II)I"⟩, 16), (⟨"LectureTurnsModel", "secondsOf", "(I)I"⟩, 16), (⟨"LectureTurnsModel", "termsOf", "(IZ)I"⟩, 16), (⟨"LectureTurnsModel", "often", "(II)I"⟩, 16), (⟨"LectureTurnsModel", "byMinute", "(I)I"⟩, 16), (⟨"LectureTurnsModel", "voices", "(I)I"⟩, 16), (⟨"LectureTurnsModel", "both", "(II)I"⟩, 16), (⟨"LectureTurnsModel", "lastEnd", "()I"⟩, 16)]
theorem lw_r3 : ∀ q ∈ lw_privs_3, lw_okq q := List.forall_mem_cons.mpr ⟨lw_p32, List.forall_mem_cons.mpr ⟨lw_p33, List.forall_mem_cons.mpr ⟨lw_p34, List.forall_mem_cons.mpr ⟨lw_p35, List.forall_mem_cons.mpr ⟨lw_p36, List.forall_mem_cons.mpr ⟨lw_p37, List.forall_mem_cons.mpr ⟨lw_p38, List.forall_mem_cons.mpr ⟨lw_p39, List.forall_mem_cons.mpr ⟨lw_p40, List.forall_mem_cons.mpr ⟨lw_p41, List.forall_mem_cons.mpr ⟨lw_p42, List.forall_mem_cons.mpr ⟨lw_p43, List.forall_mem_cons.mpr ⟨lw_p44, List.forall_mem_cons.mpr ⟨lw_p45, List.forall_mem_cons.mpr ⟨lw_p46, List.forall_mem_cons.mpr ⟨lw_p47, fun _ h => absurd h List.not_mem_nil⟩⟩⟩⟩⟩⟩⟩⟩⟩⟩⟩⟩⟩⟩⟩⟩
theorem lw_p48 : lw_okq (⟨"LectureTurnsModel", "voicesAll", "()I"⟩, 16) := ⟨⟨by decide +kernel, by decide +kernel⟩, List.mem_of_getElem? (i := 914) (by decide +kernel), List.mem_of_getElem? (i := 1201) (by decide +kernel), List.mem_of_getElem? (i := 1202) (by decide +kernel)⟩
theorem lw_p49 : lw_okq (⟨"LectureTurnsModel", "ofTurns", "(I)I"⟩, 16) := ⟨⟨by decide +kernel, by decide +kernel⟩, List.mem_of_getElem? (i := 914) (by decide +kernel), List.mem_of_getElem? (i := 1208) (by decide +kernel), List.mem_of_getElem? (i := 1209) (by decide +kernel)⟩
theorem lw_p50 : lw_okq (⟨"LectureTurnsModel", "corrections", "()I"⟩, 16) := ⟨⟨by decide +kernel, by decide +kernel⟩, List.mem_of_getElem? (i := 914) (by decide +kernel), List.mem_of_getElem? (i := 1212) (by decide +kernel), List.mem_of_getElem? (i := 1213) (by decide +kernel)⟩
theorem lw_p51 : lw_okq (⟨"LectureTurnsModel", "seconds", "(I)I"⟩, 16) := ⟨⟨by decide +kernel, by decide +kernel⟩, List.mem_of_getElem? (i := 914) (by decide +kernel), List.mem_of_getElem? (i := 1216) (by decide +kernel), List.mem_of_getElem? (i := 1217) (by decide +kernel)⟩
theorem lw_p52 : lw_okq (⟨"LectureTurnsModel", "plays", "()Z"⟩, 16) := ⟨⟨by decide +kernel, by decide +kernel⟩, List.mem_of_getElem? (i := 914) (by decide +kernel), List.mem_of_getElem? (i := 1239) (by decide +kernel), List.mem_of_getElem? (i := 1240) (by decide +kernel)⟩
theorem lw_p53 : lw_okq (⟨"LectureTurnsModel", "reads", "()Z"⟩, 16) := ⟨⟨by decide +kernel, by decide +kernel⟩, List.mem_of_getElem? (i := 914) (by decide +kernel), List.mem_of_getElem? (i := 1243) (by decide +kernel), List.mem_of_getElem? (i := 1244) (by decide +kernel)⟩
theorem lw_p54 : lw_okq (⟨"LectureTurnsModel", "isAt", "(II)Z"⟩, 16) := ⟨⟨by decide +kernel, by decide +kernel⟩, List.mem_of_getElem? (i := 914) (by decide +kernel), List.mem_of_getElem? (i := 1247) (by decide +kernel), List.mem_of_getElem? (i := 1248) (by decide +kernel)⟩
theorem lw_p55 : lw_okq (⟨"LectureTurnsModel", "number", "(I)Z"⟩, 16) := ⟨⟨by decide +kernel, by decide +kernel⟩, List.mem_of_getElem? (i := 914) (by decide +kernel), List.mem_of_getElem? (i := 1254) (by decide +kernel), List.mem_of_getElem? (i := 1255) (by decide +kernel)⟩
theorem lw_p56 : lw_okq (⟨"LectureTurnsModel", "sign", "(I)Z"⟩, 16) := ⟨⟨by decide +kernel, by decide +kernel⟩, List.mem_of_getElem? (i := 914) (by decide +kernel), List.mem_of_getElem? (i := 1258) (by decide +kernel), List.mem_of_getElem? (i := 1259) (by decide +kernel)⟩
theorem lw_p57 : lw_okq (⟨"LectureTurnsModel", "calls", "()I"⟩, 16) := ⟨⟨by decide +kernel, by decide +kernel⟩, List.mem_of_getElem? (i := 914) (by decide +kernel), List.mem_of_getElem? (i := 1262) (by decide +kernel), List.mem_of_getElem? (i := 1263) (by decide +kernel)⟩
def lw_privs_4 : List (MethodName × Nat) := [(⟨"LectureTurnsModel", "voicesAll", "()I"⟩, 16), (⟨"LectureTurnsModel", "ofTurns", "(I)I"⟩, 16), (⟨"LectureTurnsModel", "corrections", "()I"⟩, 16), (⟨"LectureTurnsModel", "seconds", "(I)I"⟩, 16), (⟨"LectureTurnsModel", "plays", "()Z"⟩, 16), (⟨"LectureTurnsModel", "reads", "()Z"⟩, 16), (⟨"LectureTurnsModel", "isAt", "(II)Z"⟩, 16), (⟨"LectureTurnsModel", "number", "(I)Z"⟩, 16), (⟨"LectureTurnsModel", "sign", "(I)Z"⟩, 16), (⟨"LectureTurnsModel", "calls", "()I"⟩, 16)]
theorem lw_r4 : ∀ q ∈ lw_privs_4, lw_okq q := List.forall_mem_cons.mpr ⟨lw_p48, List.forall_mem_cons.mpr ⟨lw_p49, List.forall_mem_cons.mpr ⟨lw_p50, List.forall_mem_cons.mpr ⟨lw_p51, List.forall_mem_cons.mpr ⟨lw_p52, List.forall_mem_cons.mpr ⟨lw_p53, List.forall_mem_cons.mpr ⟨lw_p54, List.forall_mem_cons.mpr ⟨lw_p55, List.forall_mem_cons.mpr ⟨lw_p56, List.forall_mem_cons.mpr ⟨lw_p57, fun _ h => absurd h List.not_mem_nil⟩⟩⟩⟩⟩⟩⟩⟩⟩⟩
def lw_privs : List (MethodName × Nat) := lw_privs_1 ++ (lw_privs_2 ++ (lw_privs_3 ++ (lw_privs_4)))
def lw_tbl : List Cond := k2_sels lw_privs ++ tables_1
theorem lw_privs_ok : ∀ q ∈ lw_privs, lw_okq q := by
  show ∀ q ∈ lw_privs_1 ++ (lw_privs_2 ++ (lw_privs_3 ++ (lw_privs_4))), lw_okq q
  exact List.forall_mem_append.mpr ⟨lw_r1, List.forall_mem_append.mpr ⟨lw_r2, List.forall_mem_append.mpr ⟨lw_r3, lw_r4⟩⟩⟩
/-- the streams that the claim lets the run draw from -/
abbrev lw_cs : List Choice := [Jvm.Choice.named "NaN.bits"]
theorem lw_bits : nanBits ∈ lw_cs := by first | decide | exact List.mem_cons_self | simp [lw_cs, nanBits]
end
section
def RX0 : String := "LectureTurns$Corrections"
def TX0 : u_T := fun k => match k with
  | _ => ("LectureTurns$Corrections", "targets", "[I", true)
def tyX0 : Nat → FieldType := fun k => match k with
  | _ => .array .int
theorem nmX0 : ∀ a, a < 1 → ∀ b, b < 1 → a ≠ b → (TX0 a).2.1 ≠ (TX0 b).2.1 := by decide +kernel
theorem tyX0_ok : ∀ k, k < 1 → parseFieldDescriptor (TX0 k).2.2.1 = some (tyX0 k) := by decide +kernel
abbrev cX0_init : ByteArray := prog_2_method_1_code
def yX0_init : MethodName := ⟨RX0, "<init>", "()V"⟩
abbrev cX0_takeFrom : ByteArray := prog_2_method_2_code
def yX0_takeFrom : MethodName := ⟨RX0, "takeFrom", "(LLectureTurns$Corrections;)V"⟩
abbrev cX0_isTerm : ByteArray := prog_2_method_3_code
def yX0_isTerm : MethodName := ⟨RX0, "isTerm", "(I)Z"⟩
abbrev cX0_targetOf : ByteArray := prog_2_method_4_code
def yX0_targetOf : MethodName := ⟨RX0, "targetOf", "(I)I"⟩
abbrev cX0_isCorrected : ByteArray := prog_2_method_5_code
def yX0_isCorrected : MethodName := ⟨RX0, "isCorrected", "(I)Z"⟩
abbrev cX0_put : ByteArray := prog_2_method_6_code
def yX0_put : MethodName := ⟨RX0, "put", "(II)V"⟩
abbrev cX0_shown : ByteArray := prog_2_method_7_code
def yX0_shown : MethodName := ⟨RX0, "shown", "(I)I"⟩
abbrev cX0_chainOf : ByteArray := prog_2_method_8_code
def yX0_chainOf : MethodName := ⟨RX0, "chainOf", "(I)I"⟩
abbrev cX0_leadsTo : ByteArray := prog_2_method_9_code
def yX0_leadsTo : MethodName := ⟨RX0, "leadsTo", "(II)Z"⟩
abbrev cX0_errorOf : ByteArray := prog_2_method_10_code
def yX0_errorOf : MethodName := ⟨RX0, "errorOf", "(II)I"⟩
abbrev cX0_shownAs : ByteArray := prog_2_method_11_code
def yX0_shownAs : MethodName := ⟨RX0, "shownAs", "(I)I"⟩
abbrev cX0_size : ByteArray := prog_2_method_12_code
def yX0_size : MethodName := ⟨RX0, "size", "()I"⟩
def RX1 : String := "LectureTurns$History"
def TX1 : u_T := fun k => match k with
  | 0 => ("LectureTurns$History", "states", "[LLectureTurns$Transcript;", true)
  | 1 => ("LectureTurns$History", "oldest", "I", false)
  | _ => ("LectureTurns$History", "size", "I", false)
def tyX1 : Nat → FieldType := fun k => match k with
  | 0 => .array (.object "LectureTurns$Transcript")
  | 1 => .int
  | _ => .int
theorem nmX1 : ∀ a, a < 3 → ∀ b, b < 3 → a ≠ b → (TX1 a).2.1 ≠ (TX1 b).2.1 := by decide +kernel
theorem tyX1_ok : ∀ k, k < 3 → parseFieldDescriptor (TX1 k).2.2.1 = some (tyX1 k) := by decide +kernel
abbrev cX1_init : ByteArray := prog_3_method_1_code
def yX1_init : MethodName := ⟨RX1, "<init>", "()V"⟩
abbrev cX1_size : ByteArray := prog_3_method_2_code
def yX1_size : MethodName := ⟨RX1, "size", "()I"⟩
abbrev cX1_isEmpty : ByteArray := prog_3_method_3_code
def yX1_isEmpty : MethodName := ⟨RX1, "isEmpty", "()Z"⟩
abbrev cX1_keep : ByteArray := prog_3_method_4_code
def yX1_keep : MethodName := ⟨RX1, "keep", "(LLectureTurns$Transcript;)V"⟩
abbrev cX1_restoreLatest : ByteArray := prog_3_method_5_code
def yX1_restoreLatest : MethodName := ⟨RX1, "restoreLatest", "(LLectureTurns$Transcript;)I"⟩
abbrev cX1_stateAt : ByteArray := prog_3_method_6_code
def yX1_stateAt : MethodName := ⟨RX1, "stateAt", "(I)LLectureTurns$Transcript;"⟩
abbrev cX1_copy : ByteArray := prog_3_method_7_code
def yX1_copy : MethodName := ⟨RX1, "copy", "(LLectureTurns$Transcript;LLectureTurns$Transcript;)V"⟩
def RX2 : String := "LectureTurns$Order"
def TX2 : u_T := fun k => match k with
  | 0 => ("LectureTurns$Order", "numbers", "[I", true)
  | 1 => ("LectureTurns$Order", "letter", "I", false)
  | 2 => ("LectureTurns$Order", "length", "I", false)
  | _ => ("LectureTurns$Order", "whole", "Z", false)
def tyX2 : Nat → FieldType := fun k => match k with
  | 0 => .array .int
  | 1 => .int
  | 2 => .int
  | _ => .boolean
theorem nmX2 : ∀ a, a < 4 → ∀ b, b < 4 → a ≠ b → (TX2 a).2.1 ≠ (TX2 b).2.1 := by decide +kernel
theorem tyX2_ok : ∀ k, k < 4 → parseFieldDescriptor (TX2 k).2.2.1 = some (tyX2 k) := by decide +kernel
abbrev cX2_init : ByteArray := prog_4_method_1_code
def yX2_init : MethodName := ⟨RX2, "<init>", "()V"⟩
abbrev cX2_readFrom : ByteArray := prog_4_method_2_code
def yX2_readFrom : MethodName := ⟨RX2, "readFrom", "(LLectureTurns$Text;I)V"⟩
abbrev cX2_readNumber : ByteArray := prog_4_method_3_code
def yX2_readNumber : MethodName := ⟨RX2, "readNumber", "(LLectureTurns$Text;II)Z"⟩
abbrev cX2_numbersOf : ByteArray := prog_4_method_4_code
def yX2_numbersOf : MethodName := ⟨RX2, "numbersOf", "(I)I"⟩
abbrev cX2_isWhole : ByteArray := prog_4_method_5_code
def yX2_isWhole : MethodName := ⟨RX2, "isWhole", "()Z"⟩
abbrev cX2_length : ByteArray := prog_4_method_6_code
def yX2_length : MethodName := ⟨RX2, "length", "()I"⟩
abbrev cX2_doOn : ByteArray := prog_4_method_7_code
def yX2_doOn : MethodName := ⟨RX2, "doOn", "(LLectureTurns$Transcript;)I"⟩
def RX3 : String := "LectureTurns$Review"
def TX3 : u_T := fun k => match k with
  | 0 => ("LectureTurns$Review", "text", "LLectureTurns$Text;", true)
  | 1 => ("LectureTurns$Review", "outcome", "LLectureTurns$Transcript;", true)
  | 2 => ("LectureTurns$Review", "order", "LLectureTurns$Order;", true)
  | 3 => ("LectureTurns$Review", "position", "I", false)
  | 4 => ("LectureTurns$Review", "ordersDone", "I", false)
  | 5 => ("LectureTurns$Review", "reason", "I", false)
  | _ => ("LectureTurns$Review", "cause", "I", false)
def tyX3 : Nat → FieldType := fun k => match k with
  | 0 => .object "LectureTurns$Text"
  | 1 => .object "LectureTurns$Transcript"
  | 2 => .object "LectureTurns$Order"
  | 3 => .int
  | 4 => .int
  | 5 => .int
  | _ => .int
theorem nmX3 : ∀ a, a < 7 → ∀ b, b < 7 → a ≠ b → (TX3 a).2.1 ≠ (TX3 b).2.1 := by decide +kernel
theorem tyX3_ok : ∀ k, k < 7 → parseFieldDescriptor (TX3 k).2.2.1 = some (tyX3 k) := by decide +kernel
abbrev cX3_init : ByteArray := prog_5_method_1_code
def yX3_init : MethodName := ⟨RX3, "<init>", "(LLectureTurns$Text;)V"⟩
abbrev cX3_run : ByteArray := prog_5_method_2_code
def yX3_run : MethodName := ⟨RX3, "run", "(LLectureTurns$Transcript;)V"⟩
abbrev cX3_noteAnswer : ByteArray := prog_5_method_3_code
def yX3_noteAnswer : MethodName := ⟨RX3, "noteAnswer", "(I)V"⟩
abbrev cX3_foundFault : ByteArray := prog_5_method_4_code
def yX3_foundFault : MethodName := ⟨RX3, "foundFault", "()Z"⟩
abbrev cX3_position : ByteArray := prog_5_method_5_code
def yX3_position : MethodName := ⟨RX3, "position", "()I"⟩
abbrev cX3_reason : ByteArray := prog_5_method_6_code
def yX3_reason : MethodName := ⟨RX3, "reason", "()I"⟩
abbrev cX3_cause : ByteArray := prog_5_method_7_code
def yX3_cause : MethodName := ⟨RX3, "cause", "()I"⟩
abbrev cX3_ordersDone : ByteArray := prog_5_method_8_code
def yX3_ordersDone : MethodName := ⟨RX3, "ordersDone", "()I"⟩
abbrev cX3_outcome : ByteArray := prog_5_method_9_code
def yX3_outcome : MethodName := ⟨RX3, "outcome", "()LLectureTurns$Transcript;"⟩
def RX4 : String := "LectureTurns$Speakers"
def TX4 : u_T := fun k => match k with
  | _ => ("LectureTurns$Speakers", "pitches", "[I", true)
def tyX4 : Nat → FieldType := fun k => match k with
  | _ => .array .int
theorem nmX4 : ∀ a, a < 1 → ∀ b, b < 1 → a ≠ b → (TX4 a).2.1 ≠ (TX4 b).2.1 := by decide +kernel
theorem tyX4_ok : ∀ k, k < 1 → parseFieldDescriptor (TX4 k).2.2.1 = some (tyX4 k) := by decide +kernel
abbrev cX4_init : ByteArray := prog_6_method_1_code
def yX4_init : MethodName := ⟨RX4, "<init>", "()V"⟩
abbrev cX4_takeFrom : ByteArray := prog_6_method_2_code
def yX4_takeFrom : MethodName := ⟨RX4, "takeFrom", "(LLectureTurns$Speakers;)V"⟩
abbrev cX4_has : ByteArray := prog_6_method_3_code
def yX4_has : MethodName := ⟨RX4, "has", "(I)Z"⟩
abbrev cX4_pitchOf : ByteArray := prog_6_method_4_code
def yX4_pitchOf : MethodName := ⟨RX4, "pitchOf", "(I)I"⟩
abbrev cX4_tune : ByteArray := prog_6_method_5_code
def yX4_tune : MethodName := ⟨RX4, "tune", "(II)V"⟩
abbrev cX4_free : ByteArray := prog_6_method_6_code
def yX4_free : MethodName := ⟨RX4, "free", "(I)V"⟩
abbrev cX4_lowestFree : ByteArray := prog_6_method_7_code
def yX4_lowestFree : MethodName := ⟨RX4, "lowestFree", "()I"⟩
abbrev cX4_closestTo : ByteArray := prog_6_method_8_code
def yX4_closestTo : MethodName := ⟨RX4, "closestTo", "(II)I"⟩
abbrev cX4_asSet : ByteArray := prog_6_method_9_code
def yX4_asSet : MethodName := ⟨RX4, "asSet", "()I"⟩
def RX5 : String := "LectureTurns$Survey"
def TX5 : u_T := fun k => match k with
  | 0 => ("LectureTurns$Survey", "transcript", "LLectureTurns$Transcript;", true)
  | 1 => ("LectureTurns$Survey", "turns", "LLectureTurns$Turns;", true)
  | 2 => ("LectureTurns$Survey", "corrections", "LLectureTurns$Corrections;", true)
  | 3 => ("LectureTurns$Survey", "speakers", "LLectureTurns$Speakers;", true)
  | _ => ("LectureTurns$Survey", "shownSets", "[I", true)
def tyX5 : Nat → FieldType := fun k => match k with
  | 0 => .object "LectureTurns$Transcript"
  | 1 => .object "LectureTurns$Turns"
  | 2 => .object "LectureTurns$Corrections"
  | 3 => .object "LectureTurns$Speakers"
  | _ => .array .int
theorem nmX5 : ∀ a, a < 5 → ∀ b, b < 5 → a ≠ b → (TX5 a).2.1 ≠ (TX5 b).2.1 := by decide +kernel
theorem tyX5_ok : ∀ k, k < 5 → parseFieldDescriptor (TX5 k).2.2.1 = some (tyX5 k) := by decide +kernel
abbrev cX5_init : ByteArray := prog_7_method_1_code
def yX5_init : MethodName := ⟨RX5, "<init>", "(LLectureTurns$Transcript;)V"⟩
abbrev cX5_ofTurn : ByteArray := prog_7_method_2_code
def yX5_ofTurn : MethodName := ⟨RX5, "ofTurn", "(II)I"⟩
abbrev cX5_ofPlace : ByteArray := prog_7_method_3_code
def yX5_ofPlace : MethodName := ⟨RX5, "ofPlace", "(III)I"⟩
abbrev cX5_ofTerm : ByteArray := prog_7_method_4_code
def yX5_ofTerm : MethodName := ⟨RX5, "ofTerm", "(II)I"⟩
abbrev cX5_ofSpeaker : ByteArray := prog_7_method_5_code
def yX5_ofSpeaker : MethodName := ⟨RX5, "ofSpeaker", "(II)I"⟩
abbrev cX5_ofSecond : ByteArray := prog_7_method_6_code
def yX5_ofSecond : MethodName := ⟨RX5, "ofSecond", "(II)I"⟩
abbrev cX5_ofInterruptions : ByteArray := prog_7_method_7_code
def yX5_ofInterruptions : MethodName := ⟨RX5, "ofInterruptions", "(II)I"⟩
abbrev cX5_ofPitch : ByteArray := prog_7_method_8_code
def yX5_ofPitch : MethodName := ⟨RX5, "ofPitch", "(I)I"⟩
abbrev cX5_ofCorrection : ByteArray := prog_7_method_9_code
def yX5_ofCorrection : MethodName := ⟨RX5, "ofCorrection", "(II)I"⟩
abbrev cX5_ofPairs : ByteArray := prog_7_method_10_code
def yX5_ofPairs : MethodName := ⟨RX5, "ofPairs", "(I)I"⟩
abbrev cX5_ofSilence : ByteArray := prog_7_method_11_code
def yX5_ofSilence : MethodName := ⟨RX5, "ofSilence", "(I)I"⟩
abbrev cX5_ofDoubt : ByteArray := prog_7_method_12_code
def yX5_ofDoubt : MethodName := ⟨RX5, "ofDoubt", "(I)I"⟩
abbrev cX5_ofAll : ByteArray := prog_7_method_13_code
def yX5_ofAll : MethodName := ⟨RX5, "ofAll", "(I)I"⟩
abbrev cX5_orNotFound : ByteArray := prog_7_method_14_code
def yX5_orNotFound : MethodName := ⟨RX5, "orNotFound", "(I)I"⟩
abbrev cX5_shownIn : ByteArray := prog_7_method_15_code
def yX5_shownIn : MethodName := ⟨RX5, "shownIn", "(I)I"⟩
abbrev cX5_isShownIn : ByteArray := prog_7_method_16_code
def yX5_isShownIn : MethodName := ⟨RX5, "isShownIn", "(II)Z"⟩
abbrev cX5_placesShowing : ByteArray := prog_7_method_17_code
def yX5_placesShowing : MethodName := ⟨RX5, "placesShowing", "(I)I"⟩
abbrev cX5_turnsShowing : ByteArray := prog_7_method_18_code
def yX5_turnsShowing : MethodName := ⟨RX5, "turnsShowing", "(I)I"⟩
abbrev cX5_speakersShowing : ByteArray := prog_7_method_19_code
def yX5_speakersShowing : MethodName := ⟨RX5, "speakersShowing", "(I)I"⟩
abbrev cX5_termsShownBy : ByteArray := prog_7_method_20_code
def yX5_termsShownBy : MethodName := ⟨RX5, "termsShownBy", "(I)I"⟩
abbrev cX5_interruptionsBy : ByteArray := prog_7_method_21_code
def yX5_interruptionsBy : MethodName := ⟨RX5, "interruptionsBy", "(I)I"⟩
abbrev cX5_interruptionsOf : ByteArray := prog_7_method_22_code
def yX5_interruptionsOf : MethodName := ⟨RX5, "interruptionsOf", "(I)I"⟩
abbrev cX5_bitsOfTermsByMinute : ByteArray := prog_7_method_23_code
def yX5_bitsOfTermsByMinute : MethodName := ⟨RX5, "bitsOfTermsByMinute", "(I)I"⟩
abbrev cX5_bitsOf : ByteArray := prog_7_method_24_code
def yX5_bitsOf : MethodName := ⟨RX5, "bitsOf", "(F)I"⟩
abbrev cX5_noteShownSets : ByteArray := prog_7_method_25_code
def yX5_noteShownSets : MethodName := ⟨RX5, "noteShownSets", "()V"⟩
abbrev cX5_turnsWithBoth : ByteArray := prog_7_method_26_code
def yX5_turnsWithBoth : MethodName := ⟨RX5, "turnsWithBoth", "(II)I"⟩
def RX6 : String := "LectureTurns$Text"
def TX6 : u_T := fun k => match k with
  | 0 => ("LectureTurns$Text", "characters", "[I", true)
  | _ => ("LectureTurns$Text", "length", "I", false)
def tyX6 : Nat → FieldType := fun k => match k with
  | 0 => .array .int
  | _ => .int
theorem nmX6 : ∀ a, a < 2 → ∀ b, b < 2 → a ≠ b → (TX6 a).2.1 ≠ (TX6 b).2.1 := by decide +kernel
theorem tyX6_ok : ∀ k, k < 2 → parseFieldDescriptor (TX6 k).2.2.1 = some (tyX6 k) := by decide +kernel
abbrev cX6_init : ByteArray := prog_8_method_1_code
def yX6_init : MethodName := ⟨RX6, "<init>", "()V"⟩
abbrev cX6_length : ByteArray := prog_8_method_2_code
def yX6_length : MethodName := ⟨RX6, "length", "()I"⟩
abbrev cX6_isFull : ByteArray := prog_8_method_3_code
def yX6_isFull : MethodName := ⟨RX6, "isFull", "()Z"⟩
abbrev cX6_append : ByteArray := prog_8_method_4_code
def yX6_append : MethodName := ⟨RX6, "append", "(I)I"⟩
abbrev cX6_empty : ByteArray := prog_8_method_5_code
def yX6_empty : MethodName := ⟨RX6, "empty", "()I"⟩
abbrev cX6_characterAt : ByteArray := prog_8_method_6_code
def yX6_characterAt : MethodName := ⟨RX6, "characterAt", "(I)I"⟩
def RX7 : String := "LectureTurns$Transcript"
def TX7 : u_T := fun k => match k with
  | 0 => ("LectureTurns$Transcript", "turns", "LLectureTurns$Turns;", true)
  | 1 => ("LectureTurns$Transcript", "corrections", "LLectureTurns$Corrections;", true)
  | 2 => ("LectureTurns$Transcript", "speakers", "LLectureTurns$Speakers;", true)
  | _ => ("LectureTurns$Transcript", "away", "I", false)
def tyX7 : Nat → FieldType := fun k => match k with
  | 0 => .object "LectureTurns$Turns"
  | 1 => .object "LectureTurns$Corrections"
  | 2 => .object "LectureTurns$Speakers"
  | _ => .int
theorem nmX7 : ∀ a, a < 4 → ∀ b, b < 4 → a ≠ b → (TX7 a).2.1 ≠ (TX7 b).2.1 := by decide +kernel
theorem tyX7_ok : ∀ k, k < 4 → parseFieldDescriptor (TX7 k).2.2.1 = some (tyX7 k) := by decide +kernel
abbrev cX7_init : ByteArray := prog_9_method_1_code
def yX7_init : MethodName := ⟨RX7, "<init>", "()V"⟩
abbrev cX7_takeFrom : ByteArray := prog_9_method_2_code
def yX7_takeFrom : MethodName := ⟨RX7, "takeFrom", "(LLectureTurns$Transcript;)V"⟩
abbrev cX7_addTurn : ByteArray := prog_9_method_3_code
def yX7_addTurn : MethodName := ⟨RX7, "addTurn", "(III)I"⟩
abbrev cX7_addTerm : ByteArray := prog_9_method_4_code
def yX7_addTerm : MethodName := ⟨RX7, "addTerm", "(II)I"⟩
abbrev cX7_partTurn : ByteArray := prog_9_method_5_code
def yX7_partTurn : MethodName := ⟨RX7, "partTurn", "(III)I"⟩
abbrev cX7_dropTurn : ByteArray := prog_9_method_6_code
def yX7_dropTurn : MethodName := ⟨RX7, "dropTurn", "(I)I"⟩
abbrev cX7_addCorrection : ByteArray := prog_9_method_7_code
def yX7_addCorrection : MethodName := ⟨RX7, "addCorrection", "(II)I"⟩
abbrev cX7_dropCorrection : ByteArray := prog_9_method_8_code
def yX7_dropCorrection : MethodName := ⟨RX7, "dropCorrection", "(I)I"⟩
abbrev cX7_addSpeaker : ByteArray := prog_9_method_9_code
def yX7_addSpeaker : MethodName := ⟨RX7, "addSpeaker", "(I)I"⟩
abbrev cX7_giveTurn : ByteArray := prog_9_method_10_code
def yX7_giveTurn : MethodName := ⟨RX7, "giveTurn", "(II)I"⟩
abbrev cX7_joinSpeakers : ByteArray := prog_9_method_11_code
def yX7_joinSpeakers : MethodName := ⟨RX7, "joinSpeakers", "(II)I"⟩
abbrev cX7_changeSetting : ByteArray := prog_9_method_12_code
def yX7_changeSetting : MethodName := ⟨RX7, "changeSetting", "(II)I"⟩
abbrev cX7_setting : ByteArray := prog_9_method_13_code
def yX7_setting : MethodName := ⟨RX7, "setting", "()I"⟩
abbrev cX7_closestSpeaker : ByteArray := prog_9_method_14_code
def yX7_closestSpeaker : MethodName := ⟨RX7, "closestSpeaker", "(I)I"⟩
abbrev cX7_placesReshown : ByteArray := prog_9_method_15_code
def yX7_placesReshown : MethodName := ⟨RX7, "placesReshown", "(II)I"⟩
abbrev cX7_isPitch : ByteArray := prog_9_method_16_code
def yX7_isPitch : MethodName := ⟨RX7, "isPitch", "(I)Z"⟩
def RX8 : String := "LectureTurns$Turns"
def TX8 : u_T := fun k => match k with
  | 0 => ("LectureTurns$Turns", "begins", "[I", true)
  | 1 => ("LectureTurns$Turns", "ends", "[I", true)
  | 2 => ("LectureTurns$Turns", "pitches", "[I", true)
  | 3 => ("LectureTurns$Turns", "owners", "[I", true)
  | 4 => ("LectureTurns$Turns", "termCounts", "[I", true)
  | 5 => ("LectureTurns$Turns", "terms", "[I", true)
  | _ => ("LectureTurns$Turns", "size", "I", false)
def tyX8 : Nat → FieldType := fun k => match k with
  | 0 => .array .int
  | 1 => .array .int
  | 2 => .array .int
  | 3 => .array .int
  | 4 => .array .int
  | 5 => .array .int
  | _ => .int
theorem nmX8 : ∀ a, a < 7 → ∀ b, b < 7 → a ≠ b → (TX8 a).2.1 ≠ (TX8 b).2.1 := by decide +kernel
theorem tyX8_ok : ∀ k, k < 7 → parseFieldDescriptor (TX8 k).2.2.1 = some (tyX8 k) := by decide +kernel
abbrev cX8_init : ByteArray := prog_10_method_1_code
def yX8_init : MethodName := ⟨RX8, "<init>", "()V"⟩
abbrev cX8_takeFrom : ByteArray := prog_10_method_2_code
def yX8_takeFrom : MethodName := ⟨RX8, "takeFrom", "(LLectureTurns$Turns;)V"⟩
abbrev cX8_size : ByteArray := prog_10_method_3_code
def yX8_size : MethodName := ⟨RX8, "size", "()I"⟩
abbrev cX8_isFull : ByteArray := prog_10_method_4_code
def yX8_isFull : MethodName := ⟨RX8, "isFull", "()Z"⟩
abbrev cX8_has : ByteArray := prog_10_method_5_code
def yX8_has : MethodName := ⟨RX8, "has", "(I)Z"⟩
abbrev cX8_beginOf : ByteArray := prog_10_method_6_code
def yX8_beginOf : MethodName := ⟨RX8, "beginOf", "(I)I"⟩
abbrev cX8_endOf : ByteArray := prog_10_method_7_code
def yX8_endOf : MethodName := ⟨RX8, "endOf", "(I)I"⟩
abbrev cX8_pitchOf : ByteArray := prog_10_method_8_code
def yX8_pitchOf : MethodName := ⟨RX8, "pitchOf", "(I)I"⟩
abbrev cX8_ownerOf : ByteArray := prog_10_method_9_code
def yX8_ownerOf : MethodName := ⟨RX8, "ownerOf", "(I)I"⟩
abbrev cX8_termCountOf : ByteArray := prog_10_method_10_code
def yX8_termCountOf : MethodName := ⟨RX8, "termCountOf", "(I)I"⟩
abbrev cX8_toldTerm : ByteArray := prog_10_method_11_code
def yX8_toldTerm : MethodName := ⟨RX8, "toldTerm", "(II)I"⟩
abbrev cX8_insert : ByteArray := prog_10_method_12_code
def yX8_insert : MethodName := ⟨RX8, "insert", "(IIII)I"⟩
abbrev cX8_delete : ByteArray := prog_10_method_13_code
def yX8_delete : MethodName := ⟨RX8, "delete", "(I)V"⟩
abbrev cX8_placeFor : ByteArray := prog_10_method_14_code
def yX8_placeFor : MethodName := ⟨RX8, "placeFor", "(I)I"⟩
abbrev cX8_moveRows : ByteArray := prog_10_method_15_code
def yX8_moveRows : MethodName := ⟨RX8, "moveRows", "(II)V"⟩
abbrev cX8_endAt : ByteArray := prog_10_method_16_code
def yX8_endAt : MethodName := ⟨RX8, "endAt", "(II)V"⟩
abbrev cX8_own : ByteArray := prog_10_method_17_code
def yX8_own : MethodName := ⟨RX8, "own", "(II)V"⟩
abbrev cX8_isFullOfTerms : ByteArray := prog_10_method_18_code
def yX8_isFullOfTerms : MethodName := ⟨RX8, "isFullOfTerms", "(I)Z"⟩
abbrev cX8_appendTerm : ByteArray := prog_10_method_19_code
def yX8_appendTerm : MethodName := ⟨RX8, "appendTerm", "(II)V"⟩
abbrev cX8_passTerms : ByteArray := prog_10_method_20_code
def yX8_passTerms : MethodName := ⟨RX8, "passTerms", "(III)V"⟩
abbrev cX8_passTurns : ByteArray := prog_10_method_21_code
def yX8_passTurns : MethodName := ⟨RX8, "passTurns", "(II)V"⟩
abbrev cX8_placesInAll : ByteArray := prog_10_method_22_code
def yX8_placesInAll : MethodName := ⟨RX8, "placesInAll", "()I"⟩
abbrev cX8_turnsOf : ByteArray := prog_10_method_23_code
def yX8_turnsOf : MethodName := ⟨RX8, "turnsOf", "(I)I"⟩
abbrev cX8_meanPitchOf : ByteArray := prog_10_method_24_code
def yX8_meanPitchOf : MethodName := ⟨RX8, "meanPitchOf", "(II)I"⟩
abbrev cX8_secondsOfAll : ByteArray := prog_10_method_25_code
def yX8_secondsOfAll : MethodName := ⟨RX8, "secondsOfAll", "(I)I"⟩
abbrev cX8_termsOfAll : ByteArray := prog_10_method_26_code
def yX8_termsOfAll : MethodName := ⟨RX8, "termsOfAll", "(I)I"⟩
abbrev cX8_sumOf : ByteArray := prog_10_method_27_code
def yX8_sumOf : MethodName := ⟨RX8, "sumOf", "([II)I"⟩
abbrev cX8_timesTold : ByteArray := prog_10_method_28_code
def yX8_timesTold : MethodName := ⟨RX8, "timesTold", "(I)I"⟩
abbrev cX8_overlap : ByteArray := prog_10_method_29_code
def yX8_overlap : MethodName := ⟨RX8, "overlap", "(II)Z"⟩
abbrev cX8_interrupt : ByteArray := prog_10_method_30_code
def yX8_interrupt : MethodName := ⟨RX8, "interrupt", "(II)Z"⟩
abbrev cX8_goesOn : ByteArray := prog_10_method_31_code
def yX8_goesOn : MethodName := ⟨RX8, "goesOn", "(II)Z"⟩
abbrev cX8_overlapping : ByteArray := prog_10_method_32_code
def yX8_overlapping : MethodName := ⟨RX8, "overlapping", "(I)I"⟩
abbrev cX8_interruptedBy : ByteArray := prog_10_method_33_code
def yX8_interruptedBy : MethodName := ⟨RX8, "interruptedBy", "(I)I"⟩
abbrev cX8_goingOn : ByteArray := prog_10_method_34_code
def yX8_goingOn : MethodName := ⟨RX8, "goingOn", "(I)I"⟩
abbrev cX8_speakingAt : ByteArray := prog_10_method_35_code
def yX8_speakingAt : MethodName := ⟨RX8, "speakingAt", "(I)I"⟩
abbrev cX8_overlappingPairs : ByteArray := prog_10_method_36_code
def yX8_overlappingPairs : MethodName := ⟨RX8, "overlappingPairs", "()I"⟩
abbrev cX8_interruptions : ByteArray := prog_10_method_37_code
def yX8_interruptions : MethodName := ⟨RX8, "interruptions", "(II)I"⟩
abbrev cX8_secondsAlone : ByteArray := prog_10_method_38_code
def yX8_secondsAlone : MethodName := ⟨RX8, "secondsAlone", "(I)I"⟩
abbrev cX8_secondsWithAny : ByteArray := prog_10_method_39_code
def yX8_secondsWithAny : MethodName := ⟨RX8, "secondsWithAny", "()I"⟩
abbrev cX8_secondsWithSeveral : ByteArray := prog_10_method_40_code
def yX8_secondsWithSeveral : MethodName := ⟨RX8, "secondsWithSeveral", "()I"⟩
abbrev cX8_longestSilence : ByteArray := prog_10_method_41_code
def yX8_longestSilence : MethodName := ⟨RX8, "longestSilence", "(I)I"⟩
def RX9 : String := "LectureTurns"
def TX9 : u_T := fun k => match k with
  | 0 => ("LectureTurns", "now", "LLectureTurns$Transcript;", true)
  | 1 => ("LectureTurns", "before", "LLectureTurns$Transcript;", true)
  | 2 => ("LectureTurns", "history", "LLectureTurns$History;", true)
  | 3 => ("LectureTurns", "survey", "LLectureTurns$Survey;", true)
  | 4 => ("LectureTurns", "text", "LLectureTurns$Text;", true)
  | _ => ("LectureTurns", "review", "LLectureTurns$Review;", true)
def tyX9 : Nat → FieldType := fun k => match k with
  | 0 => .object "LectureTurns$Transcript"
  | 1 => .object "LectureTurns$Transcript"
  | 2 => .object "LectureTurns$History"
  | 3 => .object "LectureTurns$Survey"
  | 4 => .object "LectureTurns$Text"
  | _ => .object "LectureTurns$Review"
theorem nmX9 : ∀ a, a < 6 → ∀ b, b < 6 → a ≠ b → (TX9 a).2.1 ≠ (TX9 b).2.1 := by decide +kernel
theorem tyX9_ok : ∀ k, k < 6 → parseFieldDescriptor (TX9 k).2.2.1 = some (tyX9 k) := by decide +kernel
abbrev cX9_init : ByteArray := prog_1_method_1_code
def yX9_init : MethodName := ⟨RX9, "<init>", "()V"⟩
abbrev cX9_turn : ByteArray := prog_1_method_2_code
def yX9_turn : MethodName := ⟨RX9, "turn", "(III)I"⟩
abbrev cX9_say : ByteArray := prog_1_method_3_code
def yX9_say : MethodName := ⟨RX9, "say", "(II)I"⟩
abbrev cX9_part : ByteArray := prog_1_method_4_code
def yX9_part : MethodName := ⟨RX9, "part", "(III)I"⟩
abbrev cX9_remove : ByteArray := prog_1_method_5_code
def yX9_remove : MethodName := ⟨RX9, "remove", "(I)I"⟩
abbrev cX9_correct : ByteArray := prog_1_method_6_code
def yX9_correct : MethodName := ⟨RX9, "correct", "(II)I"⟩
abbrev cX9_uncorrect : ByteArray := prog_1_method_7_code
def yX9_uncorrect : MethodName := ⟨RX9, "uncorrect", "(I)I"⟩
abbrev cX9_speaker : ByteArray := prog_1_method_8_code
def yX9_speaker : MethodName := ⟨RX9, "speaker", "(I)I"⟩
abbrev cX9_give : ByteArray := prog_1_method_9_code
def yX9_give : MethodName := ⟨RX9, "give", "(II)I"⟩
abbrev cX9_join : ByteArray := prog_1_method_10_code
def yX9_join : MethodName := ⟨RX9, "join", "(II)I"⟩
abbrev cX9_set : ByteArray := prog_1_method_11_code
def yX9_set : MethodName := ⟨RX9, "set", "(II)I"⟩
abbrev cX9_turnOf : ByteArray := prog_1_method_12_code
def yX9_turnOf : MethodName := ⟨RX9, "turnOf", "(II)I"⟩
abbrev cX9_termAt : ByteArray := prog_1_method_13_code
def yX9_termAt : MethodName := ⟨RX9, "termAt", "(III)I"⟩
abbrev cX9_termOf : ByteArray := prog_1_method_14_code
def yX9_termOf : MethodName := ⟨RX9, "termOf", "(II)I"⟩
abbrev cX9_speakerOf : ByteArray := prog_1_method_15_code
def yX9_speakerOf : MethodName := ⟨RX9, "speakerOf", "(II)I"⟩
abbrev cX9_during : ByteArray := prog_1_method_16_code
def yX9_during : MethodName := ⟨RX9, "during", "(II)I"⟩
abbrev cX9_interrupts : ByteArray := prog_1_method_17_code
def yX9_interrupts : MethodName := ⟨RX9, "interrupts", "(II)I"⟩
abbrev cX9_nearest : ByteArray := prog_1_method_18_code
def yX9_nearest : MethodName := ⟨RX9, "nearest", "(I)I"⟩
abbrev cX9_would : ByteArray := prog_1_method_19_code
def yX9_would : MethodName := ⟨RX9, "would", "(II)I"⟩
abbrev cX9_together : ByteArray := prog_1_method_20_code
def yX9_together : MethodName := ⟨RX9, "together", "(I)I"⟩
abbrev cX9_silence : ByteArray := prog_1_method_21_code
def yX9_silence : MethodName := ⟨RX9, "silence", "(I)I"⟩
abbrev cX9_doubtful : ByteArray := prog_1_method_22_code
def yX9_doubtful : MethodName := ⟨RX9, "doubtful", "(I)I"⟩
abbrev cX9_count : ByteArray := prog_1_method_23_code
def yX9_count : MethodName := ⟨RX9, "count", "(I)I"⟩
abbrev cX9_undo : ByteArray := prog_1_method_24_code
def yX9_undo : MethodName := ⟨RX9, "undo", "()I"⟩
abbrev cX9_type : ByteArray := prog_1_method_25_code
def yX9_type : MethodName := ⟨RX9, "type", "(I)I"⟩
abbrev cX9_clearText : ByteArray := prog_1_method_26_code
def yX9_clearText : MethodName := ⟨RX9, "clearText", "()I"⟩
abbrev cX9_fault : ByteArray := prog_1_method_27_code
def yX9_fault : MethodName := ⟨RX9, "fault", "(I)I"⟩
abbrev cX9_play : ByteArray := prog_1_method_28_code
def yX9_play : MethodName := ⟨RX9, "play", "()I"⟩
abbrev cX9_recorded : ByteArray := prog_1_method_29_code
def yX9_recorded : MethodName := ⟨RX9, "recorded", "(I)I"⟩
abbrev cX9_isWithin : ByteArray := prog_1_method_30_code
def yX9_isWithin : MethodName := ⟨RX9, "isWithin", "(III)Z"⟩
def RX10 : String := "LectureTurnsModel"
def TX10 : u_T := fun k => match k with
  | 0 => ("LectureTurnsModel", "s", "[I", true)
  | 1 => ("LectureTurnsModel", "past", "[I", true)
  | 2 => ("LectureTurnsModel", "held", "[I", true)
  | 3 => ("LectureTurnsModel", "pasts", "I", false)
  | 4 => ("LectureTurnsModel", "runs", "Z", false)
  | 5 => ("LectureTurnsModel", "text", "[I", true)
  | 6 => ("LectureTurnsModel", "typed", "I", false)
  | 7 => ("LectureTurnsModel", "parted", "[I", true)
  | 8 => ("LectureTurnsModel", "asShown", "[I", true)
  | 9 => ("LectureTurnsModel", "spot", "I", false)
  | 10 => ("LectureTurnsModel", "from", "I", false)
  | 11 => ("LectureTurnsModel", "reason", "I", false)
  | 12 => ("LectureTurnsModel", "cause", "I", false)
  | 13 => ("LectureTurnsModel", "orders", "I", false)
  | 14 => ("LectureTurnsModel", "order", "I", false)
  | _ => ("LectureTurnsModel", "told", "[I", true)
def tyX10 : Nat → FieldType := fun k => match k with
  | 0 => .array .int
  | 1 => .array .int
  | 2 => .array .int
  | 3 => .int
  | 4 => .boolean
  | 5 => .array .int
  | 6 => .int
  | 7 => .array .int
  | 8 => .array .int
  | 9 => .int
  | 10 => .int
  | 11 => .int
  | 12 => .int
  | 13 => .int
  | 14 => .int
  | _ => .array .int
theorem nmX10 : ∀ a, a < 16 → ∀ b, b < 16 → a ≠ b → (TX10 a).2.1 ≠ (TX10 b).2.1 := by decide +kernel
theorem tyX10_ok : ∀ k, k < 16 → parseFieldDescriptor (TX10 k).2.2.1 = some (tyX10 k) := by decide +kernel
abbrev cX10_init : ByteArray := prog_12_method_1_code
def yX10_init : MethodName := ⟨RX10, "<init>", "()V"⟩
abbrev cX10_in : ByteArray := prog_12_method_3_code
def yX10_in : MethodName := ⟨RX10, "in", "(III)Z"⟩
abbrev cX10_copies : ByteArray := prog_12_method_4_code
def yX10_copies : MethodName := ⟨RX10, "copies", "([I[I)V"⟩
abbrev cX10_changes : ByteArray := prog_12_method_5_code
def yX10_changes : MethodName := ⟨RX10, "changes", "()V"⟩
abbrev cX10_of : ByteArray := prog_12_method_6_code
def yX10_of : MethodName := ⟨RX10, "of", "(II)I"⟩
abbrev cX10_sets : ByteArray := prog_12_method_7_code
def yX10_sets : MethodName := ⟨RX10, "sets", "(III)V"⟩
abbrev cX10_isTurn : ByteArray := prog_12_method_8_code
def yX10_isTurn : MethodName := ⟨RX10, "isTurn", "(I)Z"⟩
abbrev cX10_isVoice : ByteArray := prog_12_method_9_code
def yX10_isVoice : MethodName := ⟨RX10, "isVoice", "(I)Z"⟩
abbrev cX10_isTerm : ByteArray := prog_12_method_10_code
def yX10_isTerm : MethodName := ⟨RX10, "isTerm", "(I)Z"⟩
abbrev cX10_far : ByteArray := prog_12_method_11_code
def yX10_far : MethodName := ⟨RX10, "far", "(II)I"⟩
abbrev cX10_voiceFor : ByteArray := prog_12_method_12_code
def yX10_voiceFor : MethodName := ⟨RX10, "voiceFor", "(I)I"⟩
abbrev cX10_opens : ByteArray := prog_12_method_13_code
def yX10_opens : MethodName := ⟨RX10, "opens", "(I)I"⟩
abbrev cX10_turn : ByteArray := prog_12_method_14_code
def yX10_turn : MethodName := ⟨RX10, "turn", "(III)I"⟩
abbrev cX10_say : ByteArray := prog_12_method_15_code
def yX10_say : MethodName := ⟨RX10, "say", "(II)I"⟩
abbrev cX10_part : ByteArray := prog_12_method_16_code
def yX10_part : MethodName := ⟨RX10, "part", "(III)I"⟩
abbrev cX10_remove : ByteArray := prog_12_method_17_code
def yX10_remove : MethodName := ⟨RX10, "remove", "(I)I"⟩
abbrev cX10_shown : ByteArray := prog_12_method_18_code
def yX10_shown : MethodName := ⟨RX10, "shown", "(I)I"⟩
abbrev cX10_isOn : ByteArray := prog_12_method_19_code
def yX10_isOn : MethodName := ⟨RX10, "isOn", "(II)Z"⟩
abbrev cX10_turnsTo : ByteArray := prog_12_method_20_code
def yX10_turnsTo : MethodName := ⟨RX10, "turnsTo", "(IIZ)I"⟩
abbrev cX10_mayCorrect : ByteArray := prog_12_method_21_code
def yX10_mayCorrect : MethodName := ⟨RX10, "mayCorrect", "(II)I"⟩
abbrev cX10_correct : ByteArray := prog_12_method_22_code
def yX10_correct : MethodName := ⟨RX10, "correct", "(II)I"⟩
abbrev cX10_uncorrect : ByteArray := prog_12_method_23_code
def yX10_uncorrect : MethodName := ⟨RX10, "uncorrect", "(I)I"⟩
abbrev cX10_speaker : ByteArray := prog_12_method_24_code
def yX10_speaker : MethodName := ⟨RX10, "speaker", "(I)I"⟩
abbrev cX10_turnsOf : ByteArray := prog_12_method_25_code
def yX10_turnsOf : MethodName := ⟨RX10, "turnsOf", "(I)I"⟩
abbrev cX10_tunes : ByteArray := prog_12_method_26_code
def yX10_tunes : MethodName := ⟨RX10, "tunes", "(I)V"⟩
abbrev cX10_give : ByteArray := prog_12_method_27_code
def yX10_give : MethodName := ⟨RX10, "give", "(II)I"⟩
abbrev cX10_join : ByteArray := prog_12_method_28_code
def yX10_join : MethodName := ⟨RX10, "join", "(II)I"⟩
abbrev cX10_set : ByteArray := prog_12_method_29_code
def yX10_set : MethodName := ⟨RX10, "set", "(II)I"⟩
abbrev cX10_overlap : ByteArray := prog_12_method_30_code
def yX10_overlap : MethodName := ⟨RX10, "overlap", "(II)Z"⟩
abbrev cX10_interrupt : ByteArray := prog_12_method_31_code
def yX10_interrupt : MethodName := ⟨RX10, "interrupt", "(II)Z"⟩
abbrev cX10_overlapping : ByteArray := prog_12_method_32_code
def yX10_overlapping : MethodName := ⟨RX10, "overlapping", "(IZ)I"⟩
abbrev cX10_goesOn : ByteArray := prog_12_method_33_code
def yX10_goesOn : MethodName := ⟨RX10, "goesOn", "(II)Z"⟩
abbrev cX10_going : ByteArray := prog_12_method_34_code
def yX10_going : MethodName := ⟨RX10, "going", "(I)I"⟩
abbrev cX10_alone : ByteArray := prog_12_method_35_code
def yX10_alone : MethodName := ⟨RX10, "alone", "(I)I"⟩
abbrev cX10_turnOf : ByteArray := prog_12_method_36_code
def yX10_turnOf : MethodName := ⟨RX10, "turnOf", "(II)I"⟩
abbrev cX10_termAt : ByteArray := prog_12_method_37_code
def yX10_termAt : MethodName := ⟨RX10, "termAt", "(III)I"⟩
abbrev cX10_chain : ByteArray := prog_12_method_38_code
def yX10_chain : MethodName := ⟨RX10, "chain", "(I)I"⟩
abbrev cX10_shows : ByteArray := prog_12_method_39_code
def yX10_shows : MethodName := ⟨RX10, "shows", "(II)I"⟩
abbrev cX10_showing : ByteArray := prog_12_method_40_code
def yX10_showing : MethodName := ⟨RX10, "showing", "(II)I"⟩
abbrev cX10_shownAs : ByteArray := prog_12_method_41_code
def yX10_shownAs : MethodName := ⟨RX10, "shownAs", "(I)I"⟩
abbrev cX10_termOf : ByteArray := prog_12_method_42_code
def yX10_termOf : MethodName := ⟨RX10, "termOf", "(II)I"⟩
abbrev cX10_secondsOf : ByteArray := prog_12_method_43_code
def yX10_secondsOf : MethodName := ⟨RX10, "secondsOf", "(I)I"⟩
abbrev cX10_termsOf : ByteArray := prog_12_method_44_code
def yX10_termsOf : MethodName := ⟨RX10, "termsOf", "(IZ)I"⟩
abbrev cX10_ones : ByteArray := prog_12_method_45_code
def yX10_ones : MethodName := ⟨RX10, "ones", "(I)I"⟩
abbrev cX10_often : ByteArray := prog_12_method_46_code
def yX10_often : MethodName := ⟨RX10, "often", "(II)I"⟩
abbrev cX10_byMinute : ByteArray := prog_12_method_47_code
def yX10_byMinute : MethodName := ⟨RX10, "byMinute", "(I)I"⟩
abbrev cX10_speakerOf : ByteArray := prog_12_method_48_code
def yX10_speakerOf : MethodName := ⟨RX10, "speakerOf", "(II)I"⟩
abbrev cX10_voices : ByteArray := prog_12_method_49_code
def yX10_voices : MethodName := ⟨RX10, "voices", "(I)I"⟩
abbrev cX10_during : ByteArray := prog_12_method_50_code
def yX10_during : MethodName := ⟨RX10, "during", "(II)I"⟩
abbrev cX10_interrupts : ByteArray := prog_12_method_51_code
def yX10_interrupts : MethodName := ⟨RX10, "interrupts", "(II)I"⟩
abbrev cX10_nearest : ByteArray := prog_12_method_52_code
def yX10_nearest : MethodName := ⟨RX10, "nearest", "(I)I"⟩
abbrev cX10_would : ByteArray := prog_12_method_53_code
def yX10_would : MethodName := ⟨RX10, "would", "(II)I"⟩
abbrev cX10_both : ByteArray := prog_12_method_54_code
def yX10_both : MethodName := ⟨RX10, "both", "(II)I"⟩
abbrev cX10_together : ByteArray := prog_12_method_55_code
def yX10_together : MethodName := ⟨RX10, "together", "(I)I"⟩
abbrev cX10_lastEnd : ByteArray := prog_12_method_56_code
def yX10_lastEnd : MethodName := ⟨RX10, "lastEnd", "()I"⟩
abbrev cX10_silence : ByteArray := prog_12_method_57_code
def yX10_silence : MethodName := ⟨RX10, "silence", "(I)I"⟩
abbrev cX10_doubtful : ByteArray := prog_12_method_58_code
def yX10_doubtful : MethodName := ⟨RX10, "doubtful", "(I)I"⟩
abbrev cX10_ofTurns : ByteArray := prog_12_method_59_code
def yX10_ofTurns : MethodName := ⟨RX10, "ofTurns", "(I)I"⟩
abbrev cX10_seconds : ByteArray := prog_12_method_60_code
def yX10_seconds : MethodName := ⟨RX10, "seconds", "(I)I"⟩
abbrev cX10_voicesAll : ByteArray := prog_12_method_61_code
def yX10_voicesAll : MethodName := ⟨RX10, "voicesAll", "()I"⟩
abbrev cX10_corrections : ByteArray := prog_12_method_62_code
def yX10_corrections : MethodName := ⟨RX10, "corrections", "()I"⟩
abbrev cX10_count : ByteArray := prog_12_method_63_code
def yX10_count : MethodName := ⟨RX10, "count", "(I)I"⟩
abbrev cX10_undo : ByteArray := prog_12_method_64_code
def yX10_undo : MethodName := ⟨RX10, "undo", "()I"⟩
abbrev cX10_type : ByteArray := prog_12_method_65_code
def yX10_type : MethodName := ⟨RX10, "type", "(I)I"⟩
abbrev cX10_clearText : ByteArray := prog_12_method_66_code
def yX10_clearText : MethodName := ⟨RX10, "clearText", "()I"⟩
abbrev cX10_isAt : ByteArray := prog_12_method_67_code
def yX10_isAt : MethodName := ⟨RX10, "isAt", "(II)Z"⟩
abbrev cX10_sign : ByteArray := prog_12_method_68_code
def yX10_sign : MethodName := ⟨RX10, "sign", "(I)Z"⟩
abbrev cX10_number : ByteArray := prog_12_method_69_code
def yX10_number : MethodName := ⟨RX10, "number", "(I)Z"⟩
abbrev cX10_numbersOf : ByteArray := prog_12_method_70_code
def yX10_numbersOf : MethodName := ⟨RX10, "numbersOf", "(I)I"⟩
abbrev cX10_reads : ByteArray := prog_12_method_71_code
def yX10_reads : MethodName := ⟨RX10, "reads", "()Z"⟩
abbrev cX10_calls : ByteArray := prog_12_method_72_code
def yX10_calls : MethodName := ⟨RX10, "calls", "()I"⟩
abbrev cX10_plays : ByteArray := prog_12_method_73_code
def yX10_plays : MethodName := ⟨RX10, "plays", "()Z"⟩
abbrev cX10_fault : ByteArray := prog_12_method_74_code
def yX10_fault : MethodName := ⟨RX10, "fault", "(I)I"⟩
abbrev cX10_play : ByteArray := prog_12_method_75_code
def yX10_play : MethodName := ⟨RX10, "play", "()I"⟩
def RJx145de : String := "java/io/Serializable"
def TJx145de : u_T := fun k => match k with
  | _ => ("", "", "", false)
def tyJx145de : Nat → FieldType := fun k => match k with
  | _ => .int
def RJxb160c : String := "java/lang/Comparable"
def TJxb160c : u_T := fun k => match k with
  | _ => ("", "", "", false)
def tyJxb160c : Nat → FieldType := fun k => match k with
  | _ => .int
def RJxf58ca : String := "java/lang/Float"
def TJxf58ca : u_T := fun k => match k with
  | _ => ("", "", "", false)
def tyJxf58ca : Nat → FieldType := fun k => match k with
  | _ => .int
abbrev cJxf58ca_isNaN_12338 : ByteArray := prog_13_method_6_code
def yJxf58ca_isNaN_12338 : MethodName := ⟨RJxf58ca, "isNaN", "(F)Z"⟩
abbrev cJxf58ca_floatToIntBits_5c35a : ByteArray := prog_13_method_24_code
def yJxf58ca_floatToIntBits_5c35a : MethodName := ⟨RJxf58ca, "floatToIntBits", "(F)I"⟩
def RJ6 : String := "java/lang/Integer"
def TJ6 : u_T := fun k => match k with
  | _ => ("", "", "", false)
def tyJ6 : Nat → FieldType := fun k => match k with
  | _ => .int
abbrev cJ6_bitCount_0f7a4 : ByteArray := prog_14_method_49_code
def yJ6_bitCount_0f7a4 : MethodName := ⟨RJ6, "bitCount", "(I)I"⟩
def RJ9 : String := "java/lang/Math"
def TJ9 : u_T := fun k => match k with
  | _ => ("", "", "", false)
def tyJ9 : Nat → FieldType := fun k => match k with
  | _ => .int
abbrev cJ9_floorMod_7cf53 : ByteArray := prog_15_method_50_code
def yJ9_floorMod_7cf53 : MethodName := ⟨RJ9, "floorMod", "(II)I"⟩
abbrev cJ9_abs_0f7a4 : ByteArray := prog_15_method_59_code
def yJ9_abs_0f7a4 : MethodName := ⟨RJ9, "abs", "(I)I"⟩
abbrev cJ9_max_7cf53 : ByteArray := prog_15_method_65_code
def yJ9_max_7cf53 : MethodName := ⟨RJ9, "max", "(II)I"⟩
abbrev cJ9_min_7cf53 : ByteArray := prog_15_method_69_code
def yJ9_min_7cf53 : MethodName := ⟨RJ9, "min", "(II)I"⟩
def RJxd2413 : String := "java/lang/Number"
def TJxd2413 : u_T := fun k => match k with
  | _ => ("", "", "", false)
def tyJxd2413 : Nat → FieldType := fun k => match k with
  | _ => .int
def RJ10 : String := "java/lang/System"
def TJ10 : u_T := fun k => match k with
  | _ => ("", "", "", false)
def tyJ10 : Nat → FieldType := fun k => match k with
  | _ => .int
def RJxfd54e : String := "java/lang/constant/Constable"
def TJxfd54e : u_T := fun k => match k with
  | _ => ("", "", "", false)
def tyJxfd54e : Nat → FieldType := fun k => match k with
  | _ => .int
def RJx3cf43 : String := "java/lang/constant/ConstantDesc"
def TJx3cf43 : u_T := fun k => match k with
  | _ => ("", "", "", false)
def tyJx3cf43 : Nat → FieldType := fun k => match k with
  | _ => .int
def RJ7 : String := "java/util/Arrays"
def TJ7 : u_T := fun k => match k with
  | _ => ("", "", "", false)
def tyJ7 : Nat → FieldType := fun k => match k with
  | _ => .int
abbrev cJ7_fill_53178 : ByteArray := prog_18_method_103_code
def yJ7_fill_53178 : MethodName := ⟨RJ7, "fill", "([II)V"⟩
def RL : String := "LectureTurnsLaw"
abbrev cL_law : ByteArray := code
def yL_law : MethodName := ⟨RL, "law", "([I)Z"⟩
abbrev vwCl : List vw_C := [(RX0, TX0, 1), (RX1, TX1, 3), (RX2, TX2, 4), (RX3, TX3, 7), (RX4, TX4, 1), (RX5, TX5, 5), (RX6, TX6, 2), (RX7, TX7, 4), (RX8, TX8, 7), (RX9, TX9, 6), (RX10, TX10, 16)]
end
section
theorem dX0_init_0 : decode cX0_init 0 = .ok (.aload_n 0, 1) := by decide +kernel
theorem dX0_init_1 : decode cX0_init 1 = .ok (.invokespecial 3, 3) := by decide +kernel
theorem dX0_init_4 : decode cX0_init 4 = .ok (.aload_n 0, 1) := by decide +kernel
theorem dX0_init_5 : decode cX0_init 5 = .ok (.bipush 16, 2) := by decide +kernel
theorem dX0_init_7 : decode cX0_init 7 = .ok (.newarray .int, 2) := by decide +kernel
theorem dX0_init_9 : decode cX0_init 9 = .ok (.putfield 9, 3) := by decide +kernel
theorem dX0_init_12 : decode cX0_init 12 = .ok (.aload_n 0, 1) := by decide +kernel
theorem dX0_init_13 : decode cX0_init 13 = .ok (.getfield 9, 3) := by decide +kernel
theorem dX0_init_16 : decode cX0_init 16 = .ok (.iconst (-1), 1) := by decide +kernel
theorem dX0_init_17 : decode cX0_init 17 = .ok (.invokestatic 15, 3) := by decide +kernel
theorem dX0_init_20 : decode cX0_init 20 = .ok (.return_, 1) := by decide +kernel
theorem dX0_takeFrom_0 : decode cX0_takeFrom 0 = .ok (.aload_n 1, 1) := by decide +kernel
theorem dX0_takeFrom_1 : decode cX0_takeFrom 1 = .ok (.getfield 9, 3) := by decide +kernel
theorem dX0_takeFrom_4 : decode cX0_takeFrom 4 = .ok (.iconst 0, 1) := by decide +kernel
theorem dX0_takeFrom_5 : decode cX0_takeFrom 5 = .ok (.aload_n 0, 1) := by decide +kernel
theorem dX0_takeFrom_6 : decode cX0_takeFrom 6 = .ok (.getfield 9, 3) := by decide +kernel
theorem dX0_takeFrom_9 : decode cX0_takeFrom 9 = .ok (.iconst 0, 1) := by decide +kernel
theorem dX0_takeFrom_10 : decode cX0_takeFrom 10 = .ok (.bipush 16, 2) := by decide +kernel
theorem dX0_takeFrom_12 : decode cX0_takeFrom 12 = .ok (.invokestatic 21, 3) := by decide +kernel
theorem dX0_takeFrom_15 : decode cX0_takeFrom 15 = .ok (.return_, 1) := by decide +kernel
theorem dX0_isTerm_0 : decode cX0_isTerm 0 = .ok (.iload_n 0, 1) := by decide +kernel
theorem dX0_isTerm_1 : decode cX0_isTerm 1 = .ok (.iconst 0, 1) := by decide +kernel
theorem dX0_isTerm_2 : decode cX0_isTerm 2 = .ok (.bipush 15, 2) := by decide +kernel
theorem dX0_isTerm_4 : decode cX0_isTerm 4 = .ok (.invokestatic 27, 3) := by decide +kernel
theorem dX0_isTerm_7 : decode cX0_isTerm 7 = .ok (.ireturn, 1) := by decide +kernel
theorem dX0_targetOf_0 : decode cX0_targetOf 0 = .ok (.aload_n 0, 1) := by decide +kernel
theorem dX0_targetOf_1 : decode cX0_targetOf 1 = .ok (.iload_n 1, 1) := by decide +kernel
theorem dX0_targetOf_2 : decode cX0_targetOf 2 = .ok (.invokevirtual 31, 3) := by decide +kernel
theorem dX0_targetOf_5 : decode cX0_targetOf 5 = .ok (.ifCond .eq 12, 3) := by decide +kernel
theorem dX0_targetOf_8 : decode cX0_targetOf 8 = .ok (.aload_n 0, 1) := by decide +kernel
theorem dX0_targetOf_9 : decode cX0_targetOf 9 = .ok (.getfield 9, 3) := by decide +kernel
theorem dX0_targetOf_12 : decode cX0_targetOf 12 = .ok (.iload_n 1, 1) := by decide +kernel
theorem dX0_targetOf_13 : decode cX0_targetOf 13 = .ok (.iaload, 1) := by decide +kernel
theorem dX0_targetOf_14 : decode cX0_targetOf 14 = .ok (.goto 4, 3) := by decide +kernel
theorem dX0_targetOf_17 : decode cX0_targetOf 17 = .ok (.iconst (-1), 1) := by decide +kernel
theorem dX0_targetOf_18 : decode cX0_targetOf 18 = .ok (.ireturn, 1) := by decide +kernel
theorem dX0_isCorrected_0 : decode cX0_isCorrected 0 = .ok (.iload_n 1, 1) := by decide +kernel
theorem dX0_isCorrected_1 : decode cX0_isCorrected 1 = .ok (.ifCond .lt 23, 3) := by decide +kernel
theorem dX0_isCorrected_4 : decode cX0_isCorrected 4 = .ok (.iload_n 1, 1) := by decide +kernel
theorem dX0_isCorrected_5 : decode cX0_isCorrected 5 = .ok (.bipush 16, 2) := by decide +kernel
theorem dX0_isCorrected_7 : decode cX0_isCorrected 7 = .ok (.if_icmp .ge 17, 3) := by decide +kernel
theorem dX0_isCorrected_10 : decode cX0_isCorrected 10 = .ok (.aload_n 0, 1) := by decide +kernel
theorem dX0_isCorrected_11 : decode cX0_isCorrected 11 = .ok (.getfield 9, 3) := by decide +kernel
theorem dX0_isCorrected_14 : decode cX0_isCorrected 14 = .ok (.iload_n 1, 1) := by decide +kernel
theorem dX0_isCorrected_15 : decode cX0_isCorrected 15 = .ok (.iaload, 1) := by decide +kernel
theorem dX0_isCorrected_16 : decode cX0_isCorrected 16 = .ok (.iconst (-1), 1) := by decide +kernel
theorem dX0_isCorrected_17 : decode cX0_isCorrected 17 = .ok (.if_icmp .eq 7, 3) := by decide +kernel
theorem dX0_isCorrected_20 : decode cX0_isCorrected 20 = .ok (.iconst 1, 1) := by decide +kernel
theorem dX0_isCorrected_21 : decode cX0_isCorrected 21 = .ok (.goto 4, 3) := by decide +kernel
theorem dX0_isCorrected_24 : decode cX0_isCorrected 24 = .ok (.iconst 0, 1) := by decide +kernel
theorem dX0_isCorrected_25 : decode cX0_isCorrected 25 = .ok (.ireturn, 1) := by decide +kernel
theorem dX0_put_0 : decode cX0_put 0 = .ok (.iload_n 1, 1) := by decide +kernel
theorem dX0_put_1 : decode cX0_put 1 = .ok (.invokestatic 35, 3) := by decide +kernel
theorem dX0_put_4 : decode cX0_put 4 = .ok (.ifCond .eq 10, 3) := by decide +kernel
theorem dX0_put_7 : decode cX0_put 7 = .ok (.aload_n 0, 1) := by decide +kernel
theorem dX0_put_8 : decode cX0_put 8 = .ok (.getfield 9, 3) := by decide +kernel
theorem dX0_put_11 : decode cX0_put 11 = .ok (.iload_n 1, 1) := by decide +kernel
theorem dX0_put_12 : decode cX0_put 12 = .ok (.iload_n 2, 1) := by decide +kernel
theorem dX0_put_13 : decode cX0_put 13 = .ok (.iastore, 1) := by decide +kernel
theorem dX0_put_14 : decode cX0_put 14 = .ok (.return_, 1) := by decide +kernel
theorem dX0_shown_0 : decode cX0_shown 0 = .ok (.iload_n 1, 1) := by decide +kernel
theorem dX0_shown_1 : decode cX0_shown 1 = .ok (.istore_n 2, 1) := by decide +kernel
theorem dX0_shown_2 : decode cX0_shown 2 = .ok (.iconst 0, 1) := by decide +kernel
theorem dX0_shown_3 : decode cX0_shown 3 = .ok (.istore_n 3, 1) := by decide +kernel
theorem dX0_shown_4 : decode cX0_shown 4 = .ok (.iload_n 3, 1) := by decide +kernel
theorem dX0_shown_5 : decode cX0_shown 5 = .ok (.bipush 16, 2) := by decide +kernel
theorem dX0_shown_7 : decode cX0_shown 7 = .ok (.if_icmp .ge 24, 3) := by decide +kernel
theorem dX0_shown_10 : decode cX0_shown 10 = .ok (.aload_n 0, 1) := by decide +kernel
theorem dX0_shown_11 : decode cX0_shown 11 = .ok (.iload_n 2, 1) := by decide +kernel
theorem dX0_shown_12 : decode cX0_shown 12 = .ok (.invokevirtual 31, 3) := by decide +kernel
theorem dX0_shown_15 : decode cX0_shown 15 = .ok (.ifCond .eq 16, 3) := by decide +kernel
theorem dX0_shown_18 : decode cX0_shown 18 = .ok (.aload_n 0, 1) := by decide +kernel
theorem dX0_shown_19 : decode cX0_shown 19 = .ok (.getfield 9, 3) := by decide +kernel
theorem dX0_shown_22 : decode cX0_shown 22 = .ok (.iload_n 2, 1) := by decide +kernel
theorem dX0_shown_23 : decode cX0_shown 23 = .ok (.iaload, 1) := by decide +kernel
theorem dX0_shown_24 : decode cX0_shown 24 = .ok (.istore_n 2, 1) := by decide +kernel
theorem dX0_shown_25 : decode cX0_shown 25 = .ok (.iinc 3 1, 3) := by decide +kernel
theorem dX0_shown_28 : decode cX0_shown 28 = .ok (.goto (-24), 3) := by decide +kernel
theorem dX0_shown_31 : decode cX0_shown 31 = .ok (.iload_n 2, 1) := by decide +kernel
theorem dX0_shown_32 : decode cX0_shown 32 = .ok (.ireturn, 1) := by decide +kernel
theorem dX0_chainOf_0 : decode cX0_chainOf 0 = .ok (.iload_n 1, 1) := by decide +kernel
theorem dX0_chainOf_1 : decode cX0_chainOf 1 = .ok (.istore_n 2, 1) := by decide +kernel
theorem dX0_chainOf_2 : decode cX0_chainOf 2 = .ok (.iconst 0, 1) := by decide +kernel
theorem dX0_chainOf_3 : decode cX0_chainOf 3 = .ok (.istore_n 3, 1) := by decide +kernel
theorem dX0_chainOf_4 : decode cX0_chainOf 4 = .ok (.iload_n 3, 1) := by decide +kernel
theorem dX0_chainOf_5 : decode cX0_chainOf 5 = .ok (.bipush 16, 2) := by decide +kernel
theorem dX0_chainOf_7 : decode cX0_chainOf 7 = .ok (.if_icmp .ge 24, 3) := by decide +kernel
theorem dX0_chainOf_10 : decode cX0_chainOf 10 = .ok (.aload_n 0, 1) := by decide +kernel
theorem dX0_chainOf_11 : decode cX0_chainOf 11 = .ok (.iload_n 2, 1) := by decide +kernel
theorem dX0_chainOf_12 : decode cX0_chainOf 12 = .ok (.invokevirtual 31, 3) := by decide +kernel
theorem dX0_chainOf_15 : decode cX0_chainOf 15 = .ok (.ifCond .eq 16, 3) := by decide +kernel
theorem dX0_chainOf_18 : decode cX0_chainOf 18 = .ok (.aload_n 0, 1) := by decide +kernel
theorem dX0_chainOf_19 : decode cX0_chainOf 19 = .ok (.getfield 9, 3) := by decide +kernel
theorem dX0_chainOf_22 : decode cX0_chainOf 22 = .ok (.iload_n 2, 1) := by decide +kernel
theorem dX0_chainOf_23 : decode cX0_chainOf 23 = .ok (.iaload, 1) := by decide +kernel
theorem dX0_chainOf_24 : decode cX0_chainOf 24 = .ok (.istore_n 2, 1) := by decide +kernel
theorem dX0_chainOf_25 : decode cX0_chainOf 25 = .ok (.iinc 3 1, 3) := by decide +kernel
theorem dX0_chainOf_28 : decode cX0_chainOf 28 = .ok (.goto (-24), 3) := by decide +kernel
theorem dX0_chainOf_31 : decode cX0_chainOf 31 = .ok (.iload_n 3, 1) := by decide +kernel
theorem dX0_chainOf_32 : decode cX0_chainOf 32 = .ok (.ireturn, 1) := by decide +kernel
theorem dX0_leadsTo_0 : decode cX0_leadsTo 0 = .ok (.iload_n 1, 1) := by decide +kernel
theorem dX0_leadsTo_1 : decode cX0_leadsTo 1 = .ok (.istore_n 3, 1) := by decide +kernel
theorem dX0_leadsTo_2 : decode cX0_leadsTo 2 = .ok (.iconst 0, 1) := by decide +kernel
theorem dX0_leadsTo_3 : decode cX0_leadsTo 3 = .ok (.istore 4, 2) := by decide +kernel
theorem dX0_leadsTo_5 : decode cX0_leadsTo 5 = .ok (.iload 4, 2) := by decide +kernel
theorem dX0_leadsTo_7 : decode cX0_leadsTo 7 = .ok (.bipush 16, 2) := by decide +kernel
theorem dX0_leadsTo_9 : decode cX0_leadsTo 9 = .ok (.if_icmp .ge 29, 3) := by decide +kernel
theorem dX0_leadsTo_12 : decode cX0_leadsTo 12 = .ok (.iload_n 3, 1) := by decide +kernel
theorem dX0_leadsTo_13 : decode cX0_leadsTo 13 = .ok (.iload_n 2, 1) := by decide +kernel
theorem dX0_leadsTo_14 : decode cX0_leadsTo 14 = .ok (.if_icmp .eq 24, 3) := by decide +kernel
theorem dX0_leadsTo_17 : decode cX0_leadsTo 17 = .ok (.aload_n 0, 1) := by decide +kernel
theorem dX0_leadsTo_18 : decode cX0_leadsTo 18 = .ok (.iload_n 3, 1) := by decide +kernel
theorem dX0_leadsTo_19 : decode cX0_leadsTo 19 = .ok (.invokevirtual 31, 3) := by decide +kernel
theorem dX0_leadsTo_22 : decode cX0_leadsTo 22 = .ok (.ifCond .eq 16, 3) := by decide +kernel
theorem dX0_leadsTo_25 : decode cX0_leadsTo 25 = .ok (.aload_n 0, 1) := by decide +kernel
theorem dX0_leadsTo_26 : decode cX0_leadsTo 26 = .ok (.getfield 9, 3) := by decide +kernel
theorem dX0_leadsTo_29 : decode cX0_leadsTo 29 = .ok (.iload_n 3, 1) := by decide +kernel
theorem dX0_leadsTo_30 : decode cX0_leadsTo 30 = .ok (.iaload, 1) := by decide +kernel
theorem dX0_leadsTo_31 : decode cX0_leadsTo 31 = .ok (.istore_n 3, 1) := by decide +kernel
theorem dX0_leadsTo_32 : decode cX0_leadsTo 32 = .ok (.iinc 4 1, 3) := by decide +kernel
theorem dX0_leadsTo_35 : decode cX0_leadsTo 35 = .ok (.goto (-30), 3) := by decide +kernel
theorem dX0_leadsTo_38 : decode cX0_leadsTo 38 = .ok (.iload_n 3, 1) := by decide +kernel
theorem dX0_leadsTo_39 : decode cX0_leadsTo 39 = .ok (.iload_n 2, 1) := by decide +kernel
theorem dX0_leadsTo_40 : decode cX0_leadsTo 40 = .ok (.if_icmp .ne 7, 3) := by decide +kernel
theorem dX0_leadsTo_43 : decode cX0_leadsTo 43 = .ok (.iconst 1, 1) := by decide +kernel
theorem dX0_leadsTo_44 : decode cX0_leadsTo 44 = .ok (.goto 4, 3) := by decide +kernel
theorem dX0_leadsTo_47 : decode cX0_leadsTo 47 = .ok (.iconst 0, 1) := by decide +kernel
theorem dX0_leadsTo_48 : decode cX0_leadsTo 48 = .ok (.ireturn, 1) := by decide +kernel
theorem dX0_errorOf_0 : decode cX0_errorOf 0 = .ok (.iload_n 1, 1) := by decide +kernel
theorem dX0_errorOf_1 : decode cX0_errorOf 1 = .ok (.invokestatic 35, 3) := by decide +kernel
theorem dX0_errorOf_4 : decode cX0_errorOf 4 = .ok (.ifCond .eq 15, 3) := by decide +kernel
theorem dX0_errorOf_7 : decode cX0_errorOf 7 = .ok (.iload_n 2, 1) := by decide +kernel
theorem dX0_errorOf_8 : decode cX0_errorOf 8 = .ok (.invokestatic 35, 3) := by decide +kernel
theorem dX0_errorOf_11 : decode cX0_errorOf 11 = .ok (.ifCond .eq 8, 3) := by decide +kernel
theorem dX0_errorOf_14 : decode cX0_errorOf 14 = .ok (.iload_n 1, 1) := by decide +kernel
theorem dX0_errorOf_15 : decode cX0_errorOf 15 = .ok (.iload_n 2, 1) := by decide +kernel
theorem dX0_errorOf_16 : decode cX0_errorOf 16 = .ok (.if_icmp .ne 6, 3) := by decide +kernel
theorem dX0_errorOf_19 : decode cX0_errorOf 19 = .ok (.ldc 38, 2) := by decide +kernel
theorem dX0_errorOf_21 : decode cX0_errorOf 21 = .ok (.ireturn, 1) := by decide +kernel
theorem dX0_errorOf_22 : decode cX0_errorOf 22 = .ok (.aload_n 0, 1) := by decide +kernel
theorem dX0_errorOf_23 : decode cX0_errorOf 23 = .ok (.iload_n 2, 1) := by decide +kernel
theorem dX0_errorOf_24 : decode cX0_errorOf 24 = .ok (.iload_n 1, 1) := by decide +kernel
theorem dX0_errorOf_25 : decode cX0_errorOf 25 = .ok (.invokevirtual 39, 3) := by decide +kernel
theorem dX0_errorOf_28 : decode cX0_errorOf 28 = .ok (.ifCond .eq 8, 3) := by decide +kernel
theorem dX0_errorOf_31 : decode cX0_errorOf 31 = .ok (.ldc 43, 2) := by decide +kernel
theorem dX0_errorOf_33 : decode cX0_errorOf 33 = .ok (.goto 4, 3) := by decide +kernel
theorem dX0_errorOf_36 : decode cX0_errorOf 36 = .ok (.iconst 0, 1) := by decide +kernel
theorem dX0_errorOf_37 : decode cX0_errorOf 37 = .ok (.ireturn, 1) := by decide +kernel
theorem dX0_shownAs_0 : decode cX0_shownAs 0 = .ok (.iconst 0, 1) := by decide +kernel
theorem dX0_shownAs_1 : decode cX0_shownAs 1 = .ok (.istore_n 2, 1) := by decide +kernel
theorem dX0_shownAs_2 : decode cX0_shownAs 2 = .ok (.iconst 0, 1) := by decide +kernel
theorem dX0_shownAs_3 : decode cX0_shownAs 3 = .ok (.istore_n 3, 1) := by decide +kernel
theorem dX0_shownAs_4 : decode cX0_shownAs 4 = .ok (.iload_n 3, 1) := by decide +kernel
theorem dX0_shownAs_5 : decode cX0_shownAs 5 = .ok (.bipush 16, 2) := by decide +kernel
theorem dX0_shownAs_7 : decode cX0_shownAs 7 = .ok (.if_icmp .ge 24, 3) := by decide +kernel
theorem dX0_shownAs_10 : decode cX0_shownAs 10 = .ok (.aload_n 0, 1) := by decide +kernel
theorem dX0_shownAs_11 : decode cX0_shownAs 11 = .ok (.iload_n 3, 1) := by decide +kernel
theorem dX0_shownAs_12 : decode cX0_shownAs 12 = .ok (.invokevirtual 44, 3) := by decide +kernel
theorem dX0_shownAs_15 : decode cX0_shownAs 15 = .ok (.iload_n 1, 1) := by decide +kernel
theorem dX0_shownAs_16 : decode cX0_shownAs 16 = .ok (.if_icmp .ne 9, 3) := by decide +kernel
theorem dX0_shownAs_19 : decode cX0_shownAs 19 = .ok (.iload_n 2, 1) := by decide +kernel
theorem dX0_shownAs_20 : decode cX0_shownAs 20 = .ok (.iconst 1, 1) := by decide +kernel
theorem dX0_shownAs_21 : decode cX0_shownAs 21 = .ok (.iload_n 3, 1) := by decide +kernel
theorem dX0_shownAs_22 : decode cX0_shownAs 22 = .ok (.ishl, 1) := by decide +kernel
theorem dX0_shownAs_23 : decode cX0_shownAs 23 = .ok (.ior, 1) := by decide +kernel
theorem dX0_shownAs_24 : decode cX0_shownAs 24 = .ok (.istore_n 2, 1) := by decide +kernel
theorem dX0_shownAs_25 : decode cX0_shownAs 25 = .ok (.iinc 3 1, 3) := by decide +kernel
theorem dX0_shownAs_28 : decode cX0_shownAs 28 = .ok (.goto (-24), 3) := by decide +kernel
theorem dX0_shownAs_31 : decode cX0_shownAs 31 = .ok (.iload_n 2, 1) := by decide +kernel
theorem dX0_shownAs_32 : decode cX0_shownAs 32 = .ok (.ireturn, 1) := by decide +kernel
theorem dX0_size_0 : decode cX0_size 0 = .ok (.iconst 0, 1) := by decide +kernel
theorem dX0_size_1 : decode cX0_size 1 = .ok (.istore_n 1, 1) := by decide +kernel
theorem dX0_size_2 : decode cX0_size 2 = .ok (.iconst 0, 1) := by decide +kernel
theorem dX0_size_3 : decode cX0_size 3 = .ok (.istore_n 2, 1) := by decide +kernel
theorem dX0_size_4 : decode cX0_size 4 = .ok (.iload_n 2, 1) := by decide +kernel
theorem dX0_size_5 : decode cX0_size 5 = .ok (.bipush 16, 2) := by decide +kernel
theorem dX0_size_7 : decode cX0_size 7 = .ok (.if_icmp .ge 20, 3) := by decide +kernel
theorem dX0_size_10 : decode cX0_size 10 = .ok (.aload_n 0, 1) := by decide +kernel
theorem dX0_size_11 : decode cX0_size 11 = .ok (.iload_n 2, 1) := by decide +kernel
theorem dX0_size_12 : decode cX0_size 12 = .ok (.invokevirtual 31, 3) := by decide +kernel
theorem dX0_size_15 : decode cX0_size 15 = .ok (.ifCond .eq 6, 3) := by decide +kernel
theorem dX0_size_18 : decode cX0_size 18 = .ok (.iinc 1 1, 3) := by decide +kernel
theorem dX0_size_21 : decode cX0_size 21 = .ok (.iinc 2 1, 3) := by decide +kernel
theorem dX0_size_24 : decode cX0_size 24 = .ok (.goto (-20), 3) := by decide +kernel
theorem dX0_size_27 : decode cX0_size 27 = .ok (.iload_n 1, 1) := by decide +kernel
theorem dX0_size_28 : decode cX0_size 28 = .ok (.ireturn, 1) := by decide +kernel
theorem dX1_init_0 : decode cX1_init 0 = .ok (.aload_n 0, 1) := by decide +kernel
theorem dX1_init_1 : decode cX1_init 1 = .ok (.invokespecial 3, 3) := by decide +kernel
theorem dX1_init_4 : decode cX1_init 4 = .ok (.aload_n 0, 1) := by decide +kernel
theorem dX1_init_5 : decode cX1_init 5 = .ok (.iconst 4, 1) := by decide +kernel
theorem dX1_init_6 : decode cX1_init 6 = .ok (.anewarray 9, 3) := by decide +kernel
theorem dX1_init_9 : decode cX1_init 9 = .ok (.putfield 11, 3) := by decide +kernel
theorem dX1_init_12 : decode cX1_init 12 = .ok (.iconst 0, 1) := by decide +kernel
theorem dX1_init_13 : decode cX1_init 13 = .ok (.istore_n 1, 1) := by decide +kernel
theorem dX1_init_14 : decode cX1_init 14 = .ok (.iload_n 1, 1) := by decide +kernel
theorem dX1_init_15 : decode cX1_init 15 = .ok (.iconst 4, 1) := by decide +kernel
theorem dX1_init_16 : decode cX1_init 16 = .ok (.if_icmp .ge 22, 3) := by decide +kernel
theorem dX1_init_19 : decode cX1_init 19 = .ok (.aload_n 0, 1) := by decide +kernel
theorem dX1_init_20 : decode cX1_init 20 = .ok (.getfield 11, 3) := by decide +kernel
theorem dX1_init_23 : decode cX1_init 23 = .ok (.iload_n 1, 1) := by decide +kernel
theorem dX1_init_24 : decode cX1_init 24 = .ok (.new 9, 3) := by decide +kernel
theorem dX1_init_27 : decode cX1_init 27 = .ok (.dup, 1) := by decide +kernel
theorem dX1_init_28 : decode cX1_init 28 = .ok (.invokespecial 17, 3) := by decide +kernel
theorem dX1_init_31 : decode cX1_init 31 = .ok (.aastore, 1) := by decide +kernel
theorem dX1_init_32 : decode cX1_init 32 = .ok (.iinc 1 1, 3) := by decide +kernel
theorem dX1_init_35 : decode cX1_init 35 = .ok (.goto (-21), 3) := by decide +kernel
theorem dX1_init_38 : decode cX1_init 38 = .ok (.return_, 1) := by decide +kernel
theorem dX1_size_0 : decode cX1_size 0 = .ok (.aload_n 0, 1) := by decide +kernel
theorem dX1_size_1 : decode cX1_size 1 = .ok (.getfield 18, 3) := by decide +kernel
theorem dX1_size_4 : decode cX1_size 4 = .ok (.ireturn, 1) := by decide +kernel
theorem dX1_isEmpty_0 : decode cX1_isEmpty 0 = .ok (.aload_n 0, 1) := by decide +kernel
theorem dX1_isEmpty_1 : decode cX1_isEmpty 1 = .ok (.getfield 18, 3) := by decide +kernel
theorem dX1_isEmpty_4 : decode cX1_isEmpty 4 = .ok (.ifCond .ne 7, 3) := by decide +kernel
theorem dX1_isEmpty_7 : decode cX1_isEmpty 7 = .ok (.iconst 1, 1) := by decide +kernel
theorem dX1_isEmpty_8 : decode cX1_isEmpty 8 = .ok (.goto 4, 3) := by decide +kernel
theorem dX1_isEmpty_11 : decode cX1_isEmpty 11 = .ok (.iconst 0, 1) := by decide +kernel
theorem dX1_isEmpty_12 : decode cX1_isEmpty 12 = .ok (.ireturn, 1) := by decide +kernel
theorem dX1_keep_0 : decode cX1_keep 0 = .ok (.aload_n 1, 1) := by decide +kernel
theorem dX1_keep_1 : decode cX1_keep 1 = .ok (.aload_n 0, 1) := by decide +kernel
theorem dX1_keep_2 : decode cX1_keep 2 = .ok (.aload_n 0, 1) := by decide +kernel
theorem dX1_keep_3 : decode cX1_keep 3 = .ok (.getfield 18, 3) := by decide +kernel
theorem dX1_keep_6 : decode cX1_keep 6 = .ok (.invokevirtual 22, 3) := by decide +kernel
theorem dX1_keep_9 : decode cX1_keep 9 = .ok (.invokestatic 26, 3) := by decide +kernel
theorem dX1_keep_12 : decode cX1_keep 12 = .ok (.aload_n 0, 1) := by decide +kernel
theorem dX1_keep_13 : decode cX1_keep 13 = .ok (.getfield 18, 3) := by decide +kernel
theorem dX1_keep_16 : decode cX1_keep 16 = .ok (.iconst 4, 1) := by decide +kernel
theorem dX1_keep_17 : decode cX1_keep 17 = .ok (.if_icmp .ge 16, 3) := by decide +kernel
theorem dX1_keep_20 : decode cX1_keep 20 = .ok (.aload_n 0, 1) := by decide +kernel
theorem dX1_keep_21 : decode cX1_keep 21 = .ok (.dup, 1) := by decide +kernel
theorem dX1_keep_22 : decode cX1_keep 22 = .ok (.getfield 18, 3) := by decide +kernel
theorem dX1_keep_25 : decode cX1_keep 25 = .ok (.iconst 1, 1) := by decide +kernel
theorem dX1_keep_26 : decode cX1_keep 26 = .ok (.iadd, 1) := by decide +kernel
theorem dX1_keep_27 : decode cX1_keep 27 = .ok (.putfield 18, 3) := by decide +kernel
theorem dX1_keep_30 : decode cX1_keep 30 = .ok (.goto 15, 3) := by decide +kernel
theorem dX1_keep_33 : decode cX1_keep 33 = .ok (.aload_n 0, 1) := by decide +kernel
theorem dX1_keep_34 : decode cX1_keep 34 = .ok (.aload_n 0, 1) := by decide +kernel
theorem dX1_keep_35 : decode cX1_keep 35 = .ok (.getfield 30, 3) := by decide +kernel
theorem dX1_keep_38 : decode cX1_keep 38 = .ok (.iconst 1, 1) := by decide +kernel
theorem dX1_keep_39 : decode cX1_keep 39 = .ok (.iadd, 1) := by decide +kernel
theorem dX1_keep_40 : decode cX1_keep 40 = .ok (.iconst 4, 1) := by decide +kernel
theorem dX1_keep_41 : decode cX1_keep 41 = .ok (.irem, 1) := by decide +kernel
theorem dX1_keep_42 : decode cX1_keep 42 = .ok (.putfield 30, 3) := by decide +kernel
theorem dX1_keep_45 : decode cX1_keep 45 = .ok (.return_, 1) := by decide +kernel
theorem dX1_restoreLatest_0 : decode cX1_restoreLatest 0 = .ok (.aload_n 0, 1) := by decide +kernel
theorem dX1_restoreLatest_1 : decode cX1_restoreLatest 1 = .ok (.getfield 18, 3) := by decide +kernel
theorem dX1_restoreLatest_4 : decode cX1_restoreLatest 4 = .ok (.ifCond .le 25, 3) := by decide +kernel
theorem dX1_restoreLatest_7 : decode cX1_restoreLatest 7 = .ok (.aload_n 0, 1) := by decide +kernel
theorem dX1_restoreLatest_8 : decode cX1_restoreLatest 8 = .ok (.dup, 1) := by decide +kernel
theorem dX1_restoreLatest_9 : decode cX1_restoreLatest 9 = .ok (.getfield 18, 3) := by decide +kernel
theorem dX1_restoreLatest_12 : decode cX1_restoreLatest 12 = .ok (.iconst 1, 1) := by decide +kernel
theorem dX1_restoreLatest_13 : decode cX1_restoreLatest 13 = .ok (.isub, 1) := by decide +kernel
theorem dX1_restoreLatest_14 : decode cX1_restoreLatest 14 = .ok (.putfield 18, 3) := by decide +kernel
theorem dX1_restoreLatest_17 : decode cX1_restoreLatest 17 = .ok (.aload_n 0, 1) := by decide +kernel
theorem dX1_restoreLatest_18 : decode cX1_restoreLatest 18 = .ok (.aload_n 0, 1) := by decide +kernel
theorem dX1_restoreLatest_19 : decode cX1_restoreLatest 19 = .ok (.getfield 18, 3) := by decide +kernel
theorem dX1_restoreLatest_22 : decode cX1_restoreLatest 22 = .ok (.invokevirtual 22, 3) := by decide +kernel
theorem dX1_restoreLatest_25 : decode cX1_restoreLatest 25 = .ok (.aload_n 1, 1) := by decide +kernel
theorem dX1_restoreLatest_26 : decode cX1_restoreLatest 26 = .ok (.invokestatic 26, 3) := by decide +kernel
theorem dX1_restoreLatest_29 : decode cX1_restoreLatest 29 = .ok (.aload_n 0, 1) := by decide +kernel
theorem dX1_restoreLatest_30 : decode cX1_restoreLatest 30 = .ok (.getfield 18, 3) := by decide +kernel
theorem dX1_restoreLatest_33 : decode cX1_restoreLatest 33 = .ok (.ireturn, 1) := by decide +kernel
theorem dX1_stateAt_0 : decode cX1_stateAt 0 = .ok (.aload_n 0, 1) := by decide +kernel
theorem dX1_stateAt_1 : decode cX1_stateAt 1 = .ok (.getfield 11, 3) := by decide +kernel
theorem dX1_stateAt_4 : decode cX1_stateAt 4 = .ok (.aload_n 0, 1) := by decide +kernel
theorem dX1_stateAt_5 : decode cX1_stateAt 5 = .ok (.getfield 30, 3) := by decide +kernel
theorem dX1_stateAt_8 : decode cX1_stateAt 8 = .ok (.iload_n 1, 1) := by decide +kernel
theorem dX1_stateAt_9 : decode cX1_stateAt 9 = .ok (.iadd, 1) := by decide +kernel
theorem dX1_stateAt_10 : decode cX1_stateAt 10 = .ok (.iconst 4, 1) := by decide +kernel
theorem dX1_stateAt_11 : decode cX1_stateAt 11 = .ok (.invokestatic 33, 3) := by decide +kernel
theorem dX1_stateAt_14 : decode cX1_stateAt 14 = .ok (.aaload, 1) := by decide +kernel
theorem dX1_stateAt_15 : decode cX1_stateAt 15 = .ok (.areturn, 1) := by decide +kernel
theorem dX1_copy_0 : decode cX1_copy 0 = .ok (.aload_n 0, 1) := by decide +kernel
theorem dX1_copy_1 : decode cX1_copy 1 = .ok (.ifnull 12, 3) := by decide +kernel
theorem dX1_copy_4 : decode cX1_copy 4 = .ok (.aload_n 1, 1) := by decide +kernel
theorem dX1_copy_5 : decode cX1_copy 5 = .ok (.ifnull 8, 3) := by decide +kernel
theorem dX1_copy_8 : decode cX1_copy 8 = .ok (.aload_n 1, 1) := by decide +kernel
theorem dX1_copy_9 : decode cX1_copy 9 = .ok (.aload_n 0, 1) := by decide +kernel
theorem dX1_copy_10 : decode cX1_copy 10 = .ok (.invokevirtual 39, 3) := by decide +kernel
theorem dX1_copy_13 : decode cX1_copy 13 = .ok (.return_, 1) := by decide +kernel
theorem dX2_init_0 : decode cX2_init 0 = .ok (.aload_n 0, 1) := by decide +kernel
theorem dX2_init_1 : decode cX2_init 1 = .ok (.invokespecial 3, 3) := by decide +kernel
theorem dX2_init_4 : decode cX2_init 4 = .ok (.aload_n 0, 1) := by decide +kernel
theorem dX2_init_5 : decode cX2_init 5 = .ok (.iconst 3, 1) := by decide +kernel
theorem dX2_init_6 : decode cX2_init 6 = .ok (.newarray .int, 2) := by decide +kernel
theorem dX2_init_8 : decode cX2_init 8 = .ok (.putfield 9, 3) := by decide +kernel
theorem dX2_init_11 : decode cX2_init 11 = .ok (.return_, 1) := by decide +kernel
theorem dX2_readFrom_0 : decode cX2_readFrom 0 = .ok (.aload_n 0, 1) := by decide +kernel
theorem dX2_readFrom_1 : decode cX2_readFrom 1 = .ok (.aload_n 1, 1) := by decide +kernel
theorem dX2_readFrom_2 : decode cX2_readFrom 2 = .ok (.iload_n 2, 1) := by decide +kernel
theorem dX2_readFrom_3 : decode cX2_readFrom 3 = .ok (.invokevirtual 15, 3) := by decide +kernel
theorem dX2_readFrom_6 : decode cX2_readFrom 6 = .ok (.putfield 21, 3) := by decide +kernel
theorem dX2_readFrom_9 : decode cX2_readFrom 9 = .ok (.aload_n 0, 1) := by decide +kernel
theorem dX2_readFrom_10 : decode cX2_readFrom 10 = .ok (.iconst 0, 1) := by decide +kernel
theorem dX2_readFrom_11 : decode cX2_readFrom 11 = .ok (.putfield 25, 3) := by decide +kernel
theorem dX2_readFrom_14 : decode cX2_readFrom 14 = .ok (.aload_n 0, 1) := by decide +kernel
theorem dX2_readFrom_15 : decode cX2_readFrom 15 = .ok (.iconst 0, 1) := by decide +kernel
theorem dX2_readFrom_16 : decode cX2_readFrom 16 = .ok (.putfield 28, 3) := by decide +kernel
theorem dX2_readFrom_19 : decode cX2_readFrom 19 = .ok (.aload_n 0, 1) := by decide +kernel
theorem dX2_readFrom_20 : decode cX2_readFrom 20 = .ok (.getfield 21, 3) := by decide +kernel
theorem dX2_readFrom_23 : decode cX2_readFrom 23 = .ok (.invokestatic 32, 3) := by decide +kernel
theorem dX2_readFrom_26 : decode cX2_readFrom 26 = .ok (.istore_n 3, 1) := by decide +kernel
theorem dX2_readFrom_27 : decode cX2_readFrom 27 = .ok (.iload_n 3, 1) := by decide +kernel
theorem dX2_readFrom_28 : decode cX2_readFrom 28 = .ok (.ifCond .ne 4, 3) := by decide +kernel
theorem dX2_readFrom_31 : decode cX2_readFrom 31 = .ok (.return_, 1) := by decide +kernel
theorem dX2_readFrom_32 : decode cX2_readFrom 32 = .ok (.aload_n 0, 1) := by decide +kernel
theorem dX2_readFrom_33 : decode cX2_readFrom 33 = .ok (.iconst 1, 1) := by decide +kernel
theorem dX2_readFrom_34 : decode cX2_readFrom 34 = .ok (.putfield 25, 3) := by decide +kernel
theorem dX2_readFrom_37 : decode cX2_readFrom 37 = .ok (.iconst 0, 1) := by decide +kernel
theorem dX2_readFrom_38 : decode cX2_readFrom 38 = .ok (.istore 4, 2) := by decide +kernel
theorem dX2_readFrom_40 : decode cX2_readFrom 40 = .ok (.iload 4, 2) := by decide +kernel
theorem dX2_readFrom_42 : decode cX2_readFrom 42 = .ok (.iload_n 3, 1) := by decide +kernel
theorem dX2_readFrom_43 : decode cX2_readFrom 43 = .ok (.if_icmp .ge 63, 3) := by decide +kernel
theorem dX2_readFrom_46 : decode cX2_readFrom 46 = .ok (.iload 4, 2) := by decide +kernel
theorem dX2_readFrom_48 : decode cX2_readFrom 48 = .ok (.iload_n 3, 1) := by decide +kernel
theorem dX2_readFrom_49 : decode cX2_readFrom 49 = .ok (.iconst 1, 1) := by decide +kernel
theorem dX2_readFrom_50 : decode cX2_readFrom 50 = .ok (.isub, 1) := by decide +kernel
theorem dX2_readFrom_51 : decode cX2_readFrom 51 = .ok (.if_icmp .ge 8, 3) := by decide +kernel
theorem dX2_readFrom_54 : decode cX2_readFrom 54 = .ok (.bipush 44, 2) := by decide +kernel
theorem dX2_readFrom_56 : decode cX2_readFrom 56 = .ok (.goto 5, 3) := by decide +kernel
theorem dX2_readFrom_59 : decode cX2_readFrom 59 = .ok (.bipush 59, 2) := by decide +kernel
theorem dX2_readFrom_61 : decode cX2_readFrom 61 = .ok (.istore 5, 2) := by decide +kernel
theorem dX2_readFrom_63 : decode cX2_readFrom 63 = .ok (.aload_n 0, 1) := by decide +kernel
theorem dX2_readFrom_64 : decode cX2_readFrom 64 = .ok (.aload_n 1, 1) := by decide +kernel
theorem dX2_readFrom_65 : decode cX2_readFrom 65 = .ok (.iload_n 2, 1) := by decide +kernel
theorem dX2_readFrom_66 : decode cX2_readFrom 66 = .ok (.iload 4, 2) := by decide +kernel
theorem dX2_readFrom_68 : decode cX2_readFrom 68 = .ok (.invokevirtual 35, 3) := by decide +kernel
theorem dX2_readFrom_71 : decode cX2_readFrom 71 = .ok (.ifCond .eq 18, 3) := by decide +kernel
theorem dX2_readFrom_74 : decode cX2_readFrom 74 = .ok (.aload_n 1, 1) := by decide +kernel
theorem dX2_readFrom_75 : decode cX2_readFrom 75 = .ok (.iload_n 2, 1) := by decide +kernel
theorem dX2_readFrom_76 : decode cX2_readFrom 76 = .ok (.aload_n 0, 1) := by decide +kernel
theorem dX2_readFrom_77 : decode cX2_readFrom 77 = .ok (.getfield 25, 3) := by decide +kernel
theorem dX2_readFrom_80 : decode cX2_readFrom 80 = .ok (.iadd, 1) := by decide +kernel
theorem dX2_readFrom_81 : decode cX2_readFrom 81 = .ok (.invokevirtual 15, 3) := by decide +kernel
theorem dX2_readFrom_84 : decode cX2_readFrom 84 = .ok (.iload 5, 2) := by decide +kernel
theorem dX2_readFrom_86 : decode cX2_readFrom 86 = .ok (.if_icmp .eq 4, 3) := by decide +kernel
theorem dX2_readFrom_89 : decode cX2_readFrom 89 = .ok (.return_, 1) := by decide +kernel
theorem dX2_readFrom_90 : decode cX2_readFrom 90 = .ok (.aload_n 0, 1) := by decide +kernel
theorem dX2_readFrom_91 : decode cX2_readFrom 91 = .ok (.dup, 1) := by decide +kernel
theorem dX2_readFrom_92 : decode cX2_readFrom 92 = .ok (.getfield 25, 3) := by decide +kernel
theorem dX2_readFrom_95 : decode cX2_readFrom 95 = .ok (.iconst 1, 1) := by decide +kernel
theorem dX2_readFrom_96 : decode cX2_readFrom 96 = .ok (.iadd, 1) := by decide +kernel
theorem dX2_readFrom_97 : decode cX2_readFrom 97 = .ok (.putfield 25, 3) := by decide +kernel
theorem dX2_readFrom_100 : decode cX2_readFrom 100 = .ok (.iinc 4 1, 3) := by decide +kernel
theorem dX2_readFrom_103 : decode cX2_readFrom 103 = .ok (.goto (-63), 3) := by decide +kernel
theorem dX2_readFrom_106 : decode cX2_readFrom 106 = .ok (.aload_n 0, 1) := by decide +kernel
theorem dX2_readFrom_107 : decode cX2_readFrom 107 = .ok (.iconst 1, 1) := by decide +kernel
theorem dX2_readFrom_108 : decode cX2_readFrom 108 = .ok (.putfield 28, 3) := by decide +kernel
theorem dX2_readFrom_111 : decode cX2_readFrom 111 = .ok (.return_, 1) := by decide +kernel
theorem dX2_readNumber_0 : decode cX2_readNumber 0 = .ok (.iconst 0, 1) := by decide +kernel
theorem dX2_readNumber_1 : decode cX2_readNumber 1 = .ok (.istore 4, 2) := by decide +kernel
theorem dX2_readNumber_3 : decode cX2_readNumber 3 = .ok (.iconst 0, 1) := by decide +kernel
theorem dX2_readNumber_4 : decode cX2_readNumber 4 = .ok (.istore 5, 2) := by decide +kernel
theorem dX2_readNumber_6 : decode cX2_readNumber 6 = .ok (.iload 5, 2) := by decide +kernel
theorem dX2_readNumber_8 : decode cX2_readNumber 8 = .ok (.iconst 4, 1) := by decide +kernel
theorem dX2_readNumber_9 : decode cX2_readNumber 9 = .ok (.if_icmp .ge 60, 3) := by decide +kernel
theorem dX2_readNumber_12 : decode cX2_readNumber 12 = .ok (.aload_n 1, 1) := by decide +kernel
theorem dX2_readNumber_13 : decode cX2_readNumber 13 = .ok (.iload_n 2, 1) := by decide +kernel
theorem dX2_readNumber_14 : decode cX2_readNumber 14 = .ok (.aload_n 0, 1) := by decide +kernel
theorem dX2_readNumber_15 : decode cX2_readNumber 15 = .ok (.getfield 25, 3) := by decide +kernel
theorem dX2_readNumber_18 : decode cX2_readNumber 18 = .ok (.iadd, 1) := by decide +kernel
theorem dX2_readNumber_19 : decode cX2_readNumber 19 = .ok (.invokevirtual 15, 3) := by decide +kernel
theorem dX2_readNumber_22 : decode cX2_readNumber 22 = .ok (.bipush 48, 2) := by decide +kernel
theorem dX2_readNumber_24 : decode cX2_readNumber 24 = .ok (.bipush 57, 2) := by decide +kernel
theorem dX2_readNumber_26 : decode cX2_readNumber 26 = .ok (.invokestatic 39, 3) := by decide +kernel
theorem dX2_readNumber_29 : decode cX2_readNumber 29 = .ok (.ifCond .eq 40, 3) := by decide +kernel
theorem dX2_readNumber_32 : decode cX2_readNumber 32 = .ok (.iload 4, 2) := by decide +kernel
theorem dX2_readNumber_34 : decode cX2_readNumber 34 = .ok (.bipush 10, 2) := by decide +kernel
theorem dX2_readNumber_36 : decode cX2_readNumber 36 = .ok (.imul, 1) := by decide +kernel
theorem dX2_readNumber_37 : decode cX2_readNumber 37 = .ok (.aload_n 1, 1) := by decide +kernel
theorem dX2_readNumber_38 : decode cX2_readNumber 38 = .ok (.iload_n 2, 1) := by decide +kernel
theorem dX2_readNumber_39 : decode cX2_readNumber 39 = .ok (.aload_n 0, 1) := by decide +kernel
theorem dX2_readNumber_40 : decode cX2_readNumber 40 = .ok (.getfield 25, 3) := by decide +kernel
theorem dX2_readNumber_43 : decode cX2_readNumber 43 = .ok (.iadd, 1) := by decide +kernel
theorem dX2_readNumber_44 : decode cX2_readNumber 44 = .ok (.invokevirtual 15, 3) := by decide +kernel
theorem dX2_readNumber_47 : decode cX2_readNumber 47 = .ok (.iadd, 1) := by decide +kernel
theorem dX2_readNumber_48 : decode cX2_readNumber 48 = .ok (.bipush 48, 2) := by decide +kernel
theorem dX2_readNumber_50 : decode cX2_readNumber 50 = .ok (.isub, 1) := by decide +kernel
theorem dX2_readNumber_51 : decode cX2_readNumber 51 = .ok (.istore 4, 2) := by decide +kernel
theorem dX2_readNumber_53 : decode cX2_readNumber 53 = .ok (.aload_n 0, 1) := by decide +kernel
theorem dX2_readNumber_54 : decode cX2_readNumber 54 = .ok (.dup, 1) := by decide +kernel
theorem dX2_readNumber_55 : decode cX2_readNumber 55 = .ok (.getfield 25, 3) := by decide +kernel
theorem dX2_readNumber_58 : decode cX2_readNumber 58 = .ok (.iconst 1, 1) := by decide +kernel
theorem dX2_readNumber_59 : decode cX2_readNumber 59 = .ok (.iadd, 1) := by decide +kernel
theorem dX2_readNumber_60 : decode cX2_readNumber 60 = .ok (.putfield 25, 3) := by decide +kernel
theorem dX2_readNumber_63 : decode cX2_readNumber 63 = .ok (.iinc 5 1, 3) := by decide +kernel
theorem dX2_readNumber_66 : decode cX2_readNumber 66 = .ok (.goto (-60), 3) := by decide +kernel
theorem dX2_readNumber_69 : decode cX2_readNumber 69 = .ok (.iload_n 3, 1) := by decide +kernel
theorem dX2_readNumber_70 : decode cX2_readNumber 70 = .ok (.iconst 0, 1) := by decide +kernel
theorem dX2_readNumber_71 : decode cX2_readNumber 71 = .ok (.iconst 2, 1) := by decide +kernel
theorem dX2_readNumber_72 : decode cX2_readNumber 72 = .ok (.invokestatic 39, 3) := by decide +kernel
theorem dX2_readNumber_75 : decode cX2_readNumber 75 = .ok (.ifCond .eq 11, 3) := by decide +kernel
theorem dX2_readNumber_78 : decode cX2_readNumber 78 = .ok (.aload_n 0, 1) := by decide +kernel
theorem dX2_readNumber_79 : decode cX2_readNumber 79 = .ok (.getfield 9, 3) := by decide +kernel
theorem dX2_readNumber_82 : decode cX2_readNumber 82 = .ok (.iload_n 3, 1) := by decide +kernel
theorem dX2_readNumber_83 : decode cX2_readNumber 83 = .ok (.iload 4, 2) := by decide +kernel
theorem dX2_readNumber_85 : decode cX2_readNumber 85 = .ok (.iastore, 1) := by decide +kernel
theorem dX2_readNumber_86 : decode cX2_readNumber 86 = .ok (.iload 5, 2) := by decide +kernel
theorem dX2_readNumber_88 : decode cX2_readNumber 88 = .ok (.ifCond .le 7, 3) := by decide +kernel
theorem dX2_readNumber_91 : decode cX2_readNumber 91 = .ok (.iconst 1, 1) := by decide +kernel
theorem dX2_readNumber_92 : decode cX2_readNumber 92 = .ok (.goto 4, 3) := by decide +kernel
theorem dX2_readNumber_95 : decode cX2_readNumber 95 = .ok (.iconst 0, 1) := by decide +kernel
theorem dX2_readNumber_96 : decode cX2_readNumber 96 = .ok (.ireturn, 1) := by decide +kernel
theorem dX2_numbersOf_0 : decode cX2_numbersOf 0 = .ok (.iload_n 0, 1) := by decide +kernel
theorem dX2_numbersOf_1 : decode cX2_numbersOf 1 = .ok (.lookupswitch 57 #[(99, 53), (103, 53), (115, 55), (116, 51), (119, 53)], 51) := by decide +kernel
theorem dX2_numbersOf_52 : decode cX2_numbersOf 52 = .ok (.iconst 3, 1) := by decide +kernel
theorem dX2_numbersOf_53 : decode cX2_numbersOf 53 = .ok (.ireturn, 1) := by decide +kernel
theorem dX2_numbersOf_54 : decode cX2_numbersOf 54 = .ok (.iconst 2, 1) := by decide +kernel
theorem dX2_numbersOf_55 : decode cX2_numbersOf 55 = .ok (.ireturn, 1) := by decide +kernel
theorem dX2_numbersOf_56 : decode cX2_numbersOf 56 = .ok (.iconst 1, 1) := by decide +kernel
theorem dX2_numbersOf_57 : decode cX2_numbersOf 57 = .ok (.ireturn, 1) := by decide +kernel
theorem dX2_numbersOf_58 : decode cX2_numbersOf 58 = .ok (.iconst 0, 1) := by decide +kernel
theorem dX2_numbersOf_59 : decode cX2_numbersOf 59 = .ok (.ireturn, 1) := by decide +kernel
theorem dX2_isWhole_0 : decode cX2_isWhole 0 = .ok (.aload_n 0, 1) := by decide +kernel
theorem dX2_isWhole_1 : decode cX2_isWhole 1 = .ok (.getfield 28, 3) := by decide +kernel
theorem dX2_isWhole_4 : decode cX2_isWhole 4 = .ok (.ireturn, 1) := by decide +kernel
theorem dX2_length_0 : decode cX2_length 0 = .ok (.aload_n 0, 1) := by decide +kernel
theorem dX2_length_1 : decode cX2_length 1 = .ok (.getfield 25, 3) := by decide +kernel
theorem dX2_length_4 : decode cX2_length 4 = .ok (.ireturn, 1) := by decide +kernel
theorem dX2_doOn_0 : decode cX2_doOn 0 = .ok (.aload_n 0, 1) := by decide +kernel
theorem dX2_doOn_1 : decode cX2_doOn 1 = .ok (.getfield 21, 3) := by decide +kernel
theorem dX2_doOn_4 : decode cX2_doOn 4 = .ok (.lookupswitch 137 #[(99, 92), (103, 109), (115, 126), (116, 52), (119, 75)], 52) := by decide +kernel
theorem dX2_doOn_56 : decode cX2_doOn 56 = .ok (.aload_n 1, 1) := by decide +kernel
theorem dX2_doOn_57 : decode cX2_doOn 57 = .ok (.aload_n 0, 1) := by decide +kernel
theorem dX2_doOn_58 : decode cX2_doOn 58 = .ok (.getfield 9, 3) := by decide +kernel
theorem dX2_doOn_61 : decode cX2_doOn 61 = .ok (.iconst 0, 1) := by decide +kernel
theorem dX2_doOn_62 : decode cX2_doOn 62 = .ok (.iaload, 1) := by decide +kernel
theorem dX2_doOn_63 : decode cX2_doOn 63 = .ok (.aload_n 0, 1) := by decide +kernel
theorem dX2_doOn_64 : decode cX2_doOn 64 = .ok (.getfield 9, 3) := by decide +kernel
theorem dX2_doOn_67 : decode cX2_doOn 67 = .ok (.iconst 1, 1) := by decide +kernel
theorem dX2_doOn_68 : decode cX2_doOn 68 = .ok (.iaload, 1) := by decide +kernel
theorem dX2_doOn_69 : decode cX2_doOn 69 = .ok (.aload_n 0, 1) := by decide +kernel
theorem dX2_doOn_70 : decode cX2_doOn 70 = .ok (.getfield 9, 3) := by decide +kernel
theorem dX2_doOn_73 : decode cX2_doOn 73 = .ok (.iconst 2, 1) := by decide +kernel
theorem dX2_doOn_74 : decode cX2_doOn 74 = .ok (.iaload, 1) := by decide +kernel
theorem dX2_doOn_75 : decode cX2_doOn 75 = .ok (.invokevirtual 43, 3) := by decide +kernel
theorem dX2_doOn_78 : decode cX2_doOn 78 = .ok (.ireturn, 1) := by decide +kernel
theorem dX2_doOn_79 : decode cX2_doOn 79 = .ok (.aload_n 1, 1) := by decide +kernel
theorem dX2_doOn_80 : decode cX2_doOn 80 = .ok (.aload_n 0, 1) := by decide +kernel
theorem dX2_doOn_81 : decode cX2_doOn 81 = .ok (.getfield 9, 3) := by decide +kernel
theorem dX2_doOn_84 : decode cX2_doOn 84 = .ok (.iconst 0, 1) := by decide +kernel
theorem dX2_doOn_85 : decode cX2_doOn 85 = .ok (.iaload, 1) := by decide +kernel
theorem dX2_doOn_86 : decode cX2_doOn 86 = .ok (.aload_n 0, 1) := by decide +kernel
theorem dX2_doOn_87 : decode cX2_doOn 87 = .ok (.getfield 9, 3) := by decide +kernel
theorem dX2_doOn_90 : decode cX2_doOn 90 = .ok (.iconst 1, 1) := by decide +kernel
theorem dX2_doOn_91 : decode cX2_doOn 91 = .ok (.iaload, 1) := by decide +kernel
theorem dX2_doOn_92 : decode cX2_doOn 92 = .ok (.invokevirtual 49, 3) := by decide +kernel
theorem dX2_doOn_95 : decode cX2_doOn 95 = .ok (.ireturn, 1) := by decide +kernel
theorem dX2_doOn_96 : decode cX2_doOn 96 = .ok (.aload_n 1, 1) := by decide +kernel
theorem dX2_doOn_97 : decode cX2_doOn 97 = .ok (.aload_n 0, 1) := by decide +kernel
theorem dX2_doOn_98 : decode cX2_doOn 98 = .ok (.getfield 9, 3) := by decide +kernel
theorem dX2_doOn_101 : decode cX2_doOn 101 = .ok (.iconst 0, 1) := by decide +kernel
theorem dX2_doOn_102 : decode cX2_doOn 102 = .ok (.iaload, 1) := by decide +kernel
theorem dX2_doOn_103 : decode cX2_doOn 103 = .ok (.aload_n 0, 1) := by decide +kernel
theorem dX2_doOn_104 : decode cX2_doOn 104 = .ok (.getfield 9, 3) := by decide +kernel
theorem dX2_doOn_107 : decode cX2_doOn 107 = .ok (.iconst 1, 1) := by decide +kernel
theorem dX2_doOn_108 : decode cX2_doOn 108 = .ok (.iaload, 1) := by decide +kernel
theorem dX2_doOn_109 : decode cX2_doOn 109 = .ok (.invokevirtual 53, 3) := by decide +kernel
theorem dX2_doOn_112 : decode cX2_doOn 112 = .ok (.ireturn, 1) := by decide +kernel
theorem dX2_doOn_113 : decode cX2_doOn 113 = .ok (.aload_n 1, 1) := by decide +kernel
theorem dX2_doOn_114 : decode cX2_doOn 114 = .ok (.aload_n 0, 1) := by decide +kernel
theorem dX2_doOn_115 : decode cX2_doOn 115 = .ok (.getfield 9, 3) := by decide +kernel
theorem dX2_doOn_118 : decode cX2_doOn 118 = .ok (.iconst 0, 1) := by decide +kernel
theorem dX2_doOn_119 : decode cX2_doOn 119 = .ok (.iaload, 1) := by decide +kernel
theorem dX2_doOn_120 : decode cX2_doOn 120 = .ok (.aload_n 0, 1) := by decide +kernel
theorem dX2_doOn_121 : decode cX2_doOn 121 = .ok (.getfield 9, 3) := by decide +kernel
theorem dX2_doOn_124 : decode cX2_doOn 124 = .ok (.iconst 1, 1) := by decide +kernel
theorem dX2_doOn_125 : decode cX2_doOn 125 = .ok (.iaload, 1) := by decide +kernel
theorem dX2_doOn_126 : decode cX2_doOn 126 = .ok (.invokevirtual 56, 3) := by decide +kernel
theorem dX2_doOn_129 : decode cX2_doOn 129 = .ok (.ireturn, 1) := by decide +kernel
theorem dX2_doOn_130 : decode cX2_doOn 130 = .ok (.aload_n 1, 1) := by decide +kernel
theorem dX2_doOn_131 : decode cX2_doOn 131 = .ok (.aload_n 0, 1) := by decide +kernel
theorem dX2_doOn_132 : decode cX2_doOn 132 = .ok (.getfield 9, 3) := by decide +kernel
theorem dX2_doOn_135 : decode cX2_doOn 135 = .ok (.iconst 0, 1) := by decide +kernel
theorem dX2_doOn_136 : decode cX2_doOn 136 = .ok (.iaload, 1) := by decide +kernel
theorem dX2_doOn_137 : decode cX2_doOn 137 = .ok (.invokevirtual 59, 3) := by decide +kernel
theorem dX2_doOn_140 : decode cX2_doOn 140 = .ok (.ireturn, 1) := by decide +kernel
theorem dX2_doOn_141 : decode cX2_doOn 141 = .ok (.ldc 62, 2) := by decide +kernel
theorem dX2_doOn_143 : decode cX2_doOn 143 = .ok (.ireturn, 1) := by decide +kernel
theorem dX3_init_0 : decode cX3_init 0 = .ok (.aload_n 0, 1) := by decide +kernel
theorem dX3_init_1 : decode cX3_init 1 = .ok (.invokespecial 3, 3) := by decide +kernel
theorem dX3_init_4 : decode cX3_init 4 = .ok (.aload_n 0, 1) := by decide +kernel
theorem dX3_init_5 : decode cX3_init 5 = .ok (.new 9, 3) := by decide +kernel
theorem dX3_init_8 : decode cX3_init 8 = .ok (.dup, 1) := by decide +kernel
theorem dX3_init_9 : decode cX3_init 9 = .ok (.invokespecial 11, 3) := by decide +kernel
theorem dX3_init_12 : decode cX3_init 12 = .ok (.putfield 12, 3) := by decide +kernel
theorem dX3_init_15 : decode cX3_init 15 = .ok (.aload_n 0, 1) := by decide +kernel
theorem dX3_init_16 : decode cX3_init 16 = .ok (.new 18, 3) := by decide +kernel
theorem dX3_init_19 : decode cX3_init 19 = .ok (.dup, 1) := by decide +kernel
theorem dX3_init_20 : decode cX3_init 20 = .ok (.invokespecial 20, 3) := by decide +kernel
theorem dX3_init_23 : decode cX3_init 23 = .ok (.putfield 21, 3) := by decide +kernel
theorem dX3_init_26 : decode cX3_init 26 = .ok (.aload_n 0, 1) := by decide +kernel
theorem dX3_init_27 : decode cX3_init 27 = .ok (.aload_n 1, 1) := by decide +kernel
theorem dX3_init_28 : decode cX3_init 28 = .ok (.putfield 25, 3) := by decide +kernel
theorem dX3_init_31 : decode cX3_init 31 = .ok (.return_, 1) := by decide +kernel
theorem dX3_run_0 : decode cX3_run 0 = .ok (.aload_n 0, 1) := by decide +kernel
theorem dX3_run_1 : decode cX3_run 1 = .ok (.getfield 12, 3) := by decide +kernel
theorem dX3_run_4 : decode cX3_run 4 = .ok (.aload_n 1, 1) := by decide +kernel
theorem dX3_run_5 : decode cX3_run 5 = .ok (.invokevirtual 29, 3) := by decide +kernel
theorem dX3_run_8 : decode cX3_run 8 = .ok (.aload_n 0, 1) := by decide +kernel
theorem dX3_run_9 : decode cX3_run 9 = .ok (.iconst 0, 1) := by decide +kernel
theorem dX3_run_10 : decode cX3_run 10 = .ok (.putfield 33, 3) := by decide +kernel
theorem dX3_run_13 : decode cX3_run 13 = .ok (.aload_n 0, 1) := by decide +kernel
theorem dX3_run_14 : decode cX3_run 14 = .ok (.iconst 0, 1) := by decide +kernel
theorem dX3_run_15 : decode cX3_run 15 = .ok (.putfield 37, 3) := by decide +kernel
theorem dX3_run_18 : decode cX3_run 18 = .ok (.aload_n 0, 1) := by decide +kernel
theorem dX3_run_19 : decode cX3_run 19 = .ok (.iconst 0, 1) := by decide +kernel
theorem dX3_run_20 : decode cX3_run 20 = .ok (.putfield 40, 3) := by decide +kernel
theorem dX3_run_23 : decode cX3_run 23 = .ok (.aload_n 0, 1) := by decide +kernel
theorem dX3_run_24 : decode cX3_run 24 = .ok (.iconst 0, 1) := by decide +kernel
theorem dX3_run_25 : decode cX3_run 25 = .ok (.putfield 43, 3) := by decide +kernel
theorem dX3_run_28 : decode cX3_run 28 = .ok (.aload_n 0, 1) := by decide +kernel
theorem dX3_run_29 : decode cX3_run 29 = .ok (.getfield 37, 3) := by decide +kernel
theorem dX3_run_32 : decode cX3_run 32 = .ok (.bipush 60, 2) := by decide +kernel
theorem dX3_run_34 : decode cX3_run 34 = .ok (.if_icmp .ge 71, 3) := by decide +kernel
theorem dX3_run_37 : decode cX3_run 37 = .ok (.aload_n 0, 1) := by decide +kernel
theorem dX3_run_38 : decode cX3_run 38 = .ok (.getfield 33, 3) := by decide +kernel
theorem dX3_run_41 : decode cX3_run 41 = .ok (.aload_n 0, 1) := by decide +kernel
theorem dX3_run_42 : decode cX3_run 42 = .ok (.getfield 25, 3) := by decide +kernel
theorem dX3_run_45 : decode cX3_run 45 = .ok (.invokevirtual 46, 3) := by decide +kernel
theorem dX3_run_48 : decode cX3_run 48 = .ok (.if_icmp .ge 57, 3) := by decide +kernel
theorem dX3_run_51 : decode cX3_run 51 = .ok (.aload_n 0, 1) := by decide +kernel
theorem dX3_run_52 : decode cX3_run 52 = .ok (.getfield 40, 3) := by decide +kernel
theorem dX3_run_55 : decode cX3_run 55 = .ok (.ifCond .ne 50, 3) := by decide +kernel
theorem dX3_run_58 : decode cX3_run 58 = .ok (.aload_n 0, 1) := by decide +kernel
theorem dX3_run_59 : decode cX3_run 59 = .ok (.getfield 21, 3) := by decide +kernel
theorem dX3_run_62 : decode cX3_run 62 = .ok (.aload_n 0, 1) := by decide +kernel
theorem dX3_run_63 : decode cX3_run 63 = .ok (.getfield 25, 3) := by decide +kernel
theorem dX3_run_66 : decode cX3_run 66 = .ok (.aload_n 0, 1) := by decide +kernel
theorem dX3_run_67 : decode cX3_run 67 = .ok (.getfield 33, 3) := by decide +kernel
theorem dX3_run_70 : decode cX3_run 70 = .ok (.invokevirtual 52, 3) := by decide +kernel
theorem dX3_run_73 : decode cX3_run 73 = .ok (.aload_n 0, 1) := by decide +kernel
theorem dX3_run_74 : decode cX3_run 74 = .ok (.aload_n 0, 1) := by decide +kernel
theorem dX3_run_75 : decode cX3_run 75 = .ok (.getfield 21, 3) := by decide +kernel
theorem dX3_run_78 : decode cX3_run 78 = .ok (.invokevirtual 56, 3) := by decide +kernel
theorem dX3_run_81 : decode cX3_run 81 = .ok (.ifCond .eq 17, 3) := by decide +kernel
theorem dX3_run_84 : decode cX3_run 84 = .ok (.aload_n 0, 1) := by decide +kernel
theorem dX3_run_85 : decode cX3_run 85 = .ok (.getfield 21, 3) := by decide +kernel
theorem dX3_run_88 : decode cX3_run 88 = .ok (.aload_n 0, 1) := by decide +kernel
theorem dX3_run_89 : decode cX3_run 89 = .ok (.getfield 12, 3) := by decide +kernel
theorem dX3_run_92 : decode cX3_run 92 = .ok (.invokevirtual 60, 3) := by decide +kernel
theorem dX3_run_95 : decode cX3_run 95 = .ok (.goto 4, 3) := by decide +kernel
theorem dX3_run_98 : decode cX3_run 98 = .ok (.iconst (-1), 1) := by decide +kernel
theorem dX3_run_99 : decode cX3_run 99 = .ok (.invokevirtual 64, 3) := by decide +kernel
theorem dX3_run_102 : decode cX3_run 102 = .ok (.goto (-74), 3) := by decide +kernel
theorem dX3_run_105 : decode cX3_run 105 = .ok (.return_, 1) := by decide +kernel
theorem dX3_noteAnswer_0 : decode cX3_noteAnswer 0 = .ok (.aload_n 0, 1) := by decide +kernel
theorem dX3_noteAnswer_1 : decode cX3_noteAnswer 1 = .ok (.getfield 21, 3) := by decide +kernel
theorem dX3_noteAnswer_4 : decode cX3_noteAnswer 4 = .ok (.invokevirtual 56, 3) := by decide +kernel
theorem dX3_noteAnswer_7 : decode cX3_noteAnswer 7 = .ok (.ifCond .ne 22, 3) := by decide +kernel
theorem dX3_noteAnswer_10 : decode cX3_noteAnswer 10 = .ok (.aload_n 0, 1) := by decide +kernel
theorem dX3_noteAnswer_11 : decode cX3_noteAnswer 11 = .ok (.iconst 1, 1) := by decide +kernel
theorem dX3_noteAnswer_12 : decode cX3_noteAnswer 12 = .ok (.putfield 40, 3) := by decide +kernel
theorem dX3_noteAnswer_15 : decode cX3_noteAnswer 15 = .ok (.aload_n 0, 1) := by decide +kernel
theorem dX3_noteAnswer_16 : decode cX3_noteAnswer 16 = .ok (.aload_n 0, 1) := by decide +kernel
theorem dX3_noteAnswer_17 : decode cX3_noteAnswer 17 = .ok (.getfield 21, 3) := by decide +kernel
theorem dX3_noteAnswer_20 : decode cX3_noteAnswer 20 = .ok (.invokevirtual 68, 3) := by decide +kernel
theorem dX3_noteAnswer_23 : decode cX3_noteAnswer 23 = .ok (.putfield 43, 3) := by decide +kernel
theorem dX3_noteAnswer_26 : decode cX3_noteAnswer 26 = .ok (.goto 46, 3) := by decide +kernel
theorem dX3_noteAnswer_29 : decode cX3_noteAnswer 29 = .ok (.iload_n 1, 1) := by decide +kernel
theorem dX3_noteAnswer_30 : decode cX3_noteAnswer 30 = .ok (.ifCond .ge 16, 3) := by decide +kernel
theorem dX3_noteAnswer_33 : decode cX3_noteAnswer 33 = .ok (.aload_n 0, 1) := by decide +kernel
theorem dX3_noteAnswer_34 : decode cX3_noteAnswer 34 = .ok (.iconst 2, 1) := by decide +kernel
theorem dX3_noteAnswer_35 : decode cX3_noteAnswer 35 = .ok (.putfield 40, 3) := by decide +kernel
theorem dX3_noteAnswer_38 : decode cX3_noteAnswer 38 = .ok (.aload_n 0, 1) := by decide +kernel
theorem dX3_noteAnswer_39 : decode cX3_noteAnswer 39 = .ok (.iload_n 1, 1) := by decide +kernel
theorem dX3_noteAnswer_40 : decode cX3_noteAnswer 40 = .ok (.putfield 43, 3) := by decide +kernel
theorem dX3_noteAnswer_43 : decode cX3_noteAnswer 43 = .ok (.goto 29, 3) := by decide +kernel
theorem dX3_noteAnswer_46 : decode cX3_noteAnswer 46 = .ok (.aload_n 0, 1) := by decide +kernel
theorem dX3_noteAnswer_47 : decode cX3_noteAnswer 47 = .ok (.dup, 1) := by decide +kernel
theorem dX3_noteAnswer_48 : decode cX3_noteAnswer 48 = .ok (.getfield 33, 3) := by decide +kernel
theorem dX3_noteAnswer_51 : decode cX3_noteAnswer 51 = .ok (.aload_n 0, 1) := by decide +kernel
theorem dX3_noteAnswer_52 : decode cX3_noteAnswer 52 = .ok (.getfield 21, 3) := by decide +kernel
theorem dX3_noteAnswer_55 : decode cX3_noteAnswer 55 = .ok (.invokevirtual 68, 3) := by decide +kernel
theorem dX3_noteAnswer_58 : decode cX3_noteAnswer 58 = .ok (.iadd, 1) := by decide +kernel
theorem dX3_noteAnswer_59 : decode cX3_noteAnswer 59 = .ok (.putfield 33, 3) := by decide +kernel
theorem dX3_noteAnswer_62 : decode cX3_noteAnswer 62 = .ok (.aload_n 0, 1) := by decide +kernel
theorem dX3_noteAnswer_63 : decode cX3_noteAnswer 63 = .ok (.dup, 1) := by decide +kernel
theorem dX3_noteAnswer_64 : decode cX3_noteAnswer 64 = .ok (.getfield 37, 3) := by decide +kernel
theorem dX3_noteAnswer_67 : decode cX3_noteAnswer 67 = .ok (.iconst 1, 1) := by decide +kernel
theorem dX3_noteAnswer_68 : decode cX3_noteAnswer 68 = .ok (.iadd, 1) := by decide +kernel
theorem dX3_noteAnswer_69 : decode cX3_noteAnswer 69 = .ok (.putfield 37, 3) := by decide +kernel
theorem dX3_noteAnswer_72 : decode cX3_noteAnswer 72 = .ok (.return_, 1) := by decide +kernel
theorem dX3_foundFault_0 : decode cX3_foundFault 0 = .ok (.aload_n 0, 1) := by decide +kernel
theorem dX3_foundFault_1 : decode cX3_foundFault 1 = .ok (.getfield 40, 3) := by decide +kernel
theorem dX3_foundFault_4 : decode cX3_foundFault 4 = .ok (.ifCond .eq 7, 3) := by decide +kernel
theorem dX3_foundFault_7 : decode cX3_foundFault 7 = .ok (.iconst 1, 1) := by decide +kernel
theorem dX3_foundFault_8 : decode cX3_foundFault 8 = .ok (.goto 4, 3) := by decide +kernel
theorem dX3_foundFault_11 : decode cX3_foundFault 11 = .ok (.iconst 0, 1) := by decide +kernel
theorem dX3_foundFault_12 : decode cX3_foundFault 12 = .ok (.ireturn, 1) := by decide +kernel
theorem dX3_position_0 : decode cX3_position 0 = .ok (.aload_n 0, 1) := by decide +kernel
theorem dX3_position_1 : decode cX3_position 1 = .ok (.getfield 33, 3) := by decide +kernel
theorem dX3_position_4 : decode cX3_position 4 = .ok (.ireturn, 1) := by decide +kernel
theorem dX3_reason_0 : decode cX3_reason 0 = .ok (.aload_n 0, 1) := by decide +kernel
theorem dX3_reason_1 : decode cX3_reason 1 = .ok (.getfield 40, 3) := by decide +kernel
theorem dX3_reason_4 : decode cX3_reason 4 = .ok (.ireturn, 1) := by decide +kernel
theorem dX3_cause_0 : decode cX3_cause 0 = .ok (.aload_n 0, 1) := by decide +kernel
theorem dX3_cause_1 : decode cX3_cause 1 = .ok (.getfield 43, 3) := by decide +kernel
theorem dX3_cause_4 : decode cX3_cause 4 = .ok (.ireturn, 1) := by decide +kernel
theorem dX3_ordersDone_0 : decode cX3_ordersDone 0 = .ok (.aload_n 0, 1) := by decide +kernel
theorem dX3_ordersDone_1 : decode cX3_ordersDone 1 = .ok (.getfield 37, 3) := by decide +kernel
theorem dX3_ordersDone_4 : decode cX3_ordersDone 4 = .ok (.ireturn, 1) := by decide +kernel
theorem dX3_outcome_0 : decode cX3_outcome 0 = .ok (.aload_n 0, 1) := by decide +kernel
theorem dX3_outcome_1 : decode cX3_outcome 1 = .ok (.getfield 12, 3) := by decide +kernel
theorem dX3_outcome_4 : decode cX3_outcome 4 = .ok (.areturn, 1) := by decide +kernel
theorem dX4_init_0 : decode cX4_init 0 = .ok (.aload_n 0, 1) := by decide +kernel
theorem dX4_init_1 : decode cX4_init 1 = .ok (.invokespecial 3, 3) := by decide +kernel
theorem dX4_init_4 : decode cX4_init 4 = .ok (.aload_n 0, 1) := by decide +kernel
theorem dX4_init_5 : decode cX4_init 5 = .ok (.bipush 6, 2) := by decide +kernel
theorem dX4_init_7 : decode cX4_init 7 = .ok (.newarray .int, 2) := by decide +kernel
theorem dX4_init_9 : decode cX4_init 9 = .ok (.putfield 9, 3) := by decide +kernel
theorem dX4_init_12 : decode cX4_init 12 = .ok (.return_, 1) := by decide +kernel
theorem dX4_takeFrom_0 : decode cX4_takeFrom 0 = .ok (.aload_n 1, 1) := by decide +kernel
theorem dX4_takeFrom_1 : decode cX4_takeFrom 1 = .ok (.getfield 9, 3) := by decide +kernel
theorem dX4_takeFrom_4 : decode cX4_takeFrom 4 = .ok (.iconst 0, 1) := by decide +kernel
theorem dX4_takeFrom_5 : decode cX4_takeFrom 5 = .ok (.aload_n 0, 1) := by decide +kernel
theorem dX4_takeFrom_6 : decode cX4_takeFrom 6 = .ok (.getfield 9, 3) := by decide +kernel
theorem dX4_takeFrom_9 : decode cX4_takeFrom 9 = .ok (.iconst 0, 1) := by decide +kernel
theorem dX4_takeFrom_10 : decode cX4_takeFrom 10 = .ok (.bipush 6, 2) := by decide +kernel
theorem dX4_takeFrom_12 : decode cX4_takeFrom 12 = .ok (.invokestatic 15, 3) := by decide +kernel
theorem dX4_takeFrom_15 : decode cX4_takeFrom 15 = .ok (.return_, 1) := by decide +kernel
theorem dX4_has_0 : decode cX4_has 0 = .ok (.iload_n 1, 1) := by decide +kernel
theorem dX4_has_1 : decode cX4_has 1 = .ok (.ifCond .lt 22, 3) := by decide +kernel
theorem dX4_has_4 : decode cX4_has 4 = .ok (.iload_n 1, 1) := by decide +kernel
theorem dX4_has_5 : decode cX4_has 5 = .ok (.bipush 6, 2) := by decide +kernel
theorem dX4_has_7 : decode cX4_has 7 = .ok (.if_icmp .ge 16, 3) := by decide +kernel
theorem dX4_has_10 : decode cX4_has 10 = .ok (.aload_n 0, 1) := by decide +kernel
theorem dX4_has_11 : decode cX4_has 11 = .ok (.getfield 9, 3) := by decide +kernel
theorem dX4_has_14 : decode cX4_has 14 = .ok (.iload_n 1, 1) := by decide +kernel
theorem dX4_has_15 : decode cX4_has 15 = .ok (.iaload, 1) := by decide +kernel
theorem dX4_has_16 : decode cX4_has 16 = .ok (.ifCond .eq 7, 3) := by decide +kernel
theorem dX4_has_19 : decode cX4_has 19 = .ok (.iconst 1, 1) := by decide +kernel
theorem dX4_has_20 : decode cX4_has 20 = .ok (.goto 4, 3) := by decide +kernel
theorem dX4_has_23 : decode cX4_has 23 = .ok (.iconst 0, 1) := by decide +kernel
theorem dX4_has_24 : decode cX4_has 24 = .ok (.ireturn, 1) := by decide +kernel
theorem dX4_pitchOf_0 : decode cX4_pitchOf 0 = .ok (.aload_n 0, 1) := by decide +kernel
theorem dX4_pitchOf_1 : decode cX4_pitchOf 1 = .ok (.iload_n 1, 1) := by decide +kernel
theorem dX4_pitchOf_2 : decode cX4_pitchOf 2 = .ok (.invokevirtual 21, 3) := by decide +kernel
theorem dX4_pitchOf_5 : decode cX4_pitchOf 5 = .ok (.ifCond .eq 12, 3) := by decide +kernel
theorem dX4_pitchOf_8 : decode cX4_pitchOf 8 = .ok (.aload_n 0, 1) := by decide +kernel
theorem dX4_pitchOf_9 : decode cX4_pitchOf 9 = .ok (.getfield 9, 3) := by decide +kernel
theorem dX4_pitchOf_12 : decode cX4_pitchOf 12 = .ok (.iload_n 1, 1) := by decide +kernel
theorem dX4_pitchOf_13 : decode cX4_pitchOf 13 = .ok (.iaload, 1) := by decide +kernel
theorem dX4_pitchOf_14 : decode cX4_pitchOf 14 = .ok (.goto 4, 3) := by decide +kernel
theorem dX4_pitchOf_17 : decode cX4_pitchOf 17 = .ok (.iconst 0, 1) := by decide +kernel
theorem dX4_pitchOf_18 : decode cX4_pitchOf 18 = .ok (.ireturn, 1) := by decide +kernel
theorem dX4_tune_0 : decode cX4_tune 0 = .ok (.iload_n 1, 1) := by decide +kernel
theorem dX4_tune_1 : decode cX4_tune 1 = .ok (.iconst 0, 1) := by decide +kernel
theorem dX4_tune_2 : decode cX4_tune 2 = .ok (.iconst 5, 1) := by decide +kernel
theorem dX4_tune_3 : decode cX4_tune 3 = .ok (.invokestatic 25, 3) := by decide +kernel
theorem dX4_tune_6 : decode cX4_tune 6 = .ok (.ifCond .eq 10, 3) := by decide +kernel
theorem dX4_tune_9 : decode cX4_tune 9 = .ok (.aload_n 0, 1) := by decide +kernel
theorem dX4_tune_10 : decode cX4_tune 10 = .ok (.getfield 9, 3) := by decide +kernel
theorem dX4_tune_13 : decode cX4_tune 13 = .ok (.iload_n 1, 1) := by decide +kernel
theorem dX4_tune_14 : decode cX4_tune 14 = .ok (.iload_n 2, 1) := by decide +kernel
theorem dX4_tune_15 : decode cX4_tune 15 = .ok (.iastore, 1) := by decide +kernel
theorem dX4_tune_16 : decode cX4_tune 16 = .ok (.return_, 1) := by decide +kernel
theorem dX4_free_0 : decode cX4_free 0 = .ok (.aload_n 0, 1) := by decide +kernel
theorem dX4_free_1 : decode cX4_free 1 = .ok (.iload_n 1, 1) := by decide +kernel
theorem dX4_free_2 : decode cX4_free 2 = .ok (.iconst 0, 1) := by decide +kernel
theorem dX4_free_3 : decode cX4_free 3 = .ok (.invokevirtual 29, 3) := by decide +kernel
theorem dX4_free_6 : decode cX4_free 6 = .ok (.return_, 1) := by decide +kernel
theorem dX4_lowestFree_0 : decode cX4_lowestFree 0 = .ok (.iconst 0, 1) := by decide +kernel
theorem dX4_lowestFree_1 : decode cX4_lowestFree 1 = .ok (.istore_n 1, 1) := by decide +kernel
theorem dX4_lowestFree_2 : decode cX4_lowestFree 2 = .ok (.iload_n 1, 1) := by decide +kernel
theorem dX4_lowestFree_3 : decode cX4_lowestFree 3 = .ok (.bipush 6, 2) := by decide +kernel
theorem dX4_lowestFree_5 : decode cX4_lowestFree 5 = .ok (.if_icmp .ge 19, 3) := by decide +kernel
theorem dX4_lowestFree_8 : decode cX4_lowestFree 8 = .ok (.aload_n 0, 1) := by decide +kernel
theorem dX4_lowestFree_9 : decode cX4_lowestFree 9 = .ok (.iload_n 1, 1) := by decide +kernel
theorem dX4_lowestFree_10 : decode cX4_lowestFree 10 = .ok (.invokevirtual 21, 3) := by decide +kernel
theorem dX4_lowestFree_13 : decode cX4_lowestFree 13 = .ok (.ifCond .ne 5, 3) := by decide +kernel
theorem dX4_lowestFree_16 : decode cX4_lowestFree 16 = .ok (.iload_n 1, 1) := by decide +kernel
theorem dX4_lowestFree_17 : decode cX4_lowestFree 17 = .ok (.ireturn, 1) := by decide +kernel
theorem dX4_lowestFree_18 : decode cX4_lowestFree 18 = .ok (.iinc 1 1, 3) := by decide +kernel
theorem dX4_lowestFree_21 : decode cX4_lowestFree 21 = .ok (.goto (-19), 3) := by decide +kernel
theorem dX4_lowestFree_24 : decode cX4_lowestFree 24 = .ok (.iconst (-1), 1) := by decide +kernel
theorem dX4_lowestFree_25 : decode cX4_lowestFree 25 = .ok (.ireturn, 1) := by decide +kernel
theorem dX4_closestTo_0 : decode cX4_closestTo 0 = .ok (.iconst (-1), 1) := by decide +kernel
theorem dX4_closestTo_1 : decode cX4_closestTo 1 = .ok (.istore_n 3, 1) := by decide +kernel
theorem dX4_closestTo_2 : decode cX4_closestTo 2 = .ok (.iload_n 2, 1) := by decide +kernel
theorem dX4_closestTo_3 : decode cX4_closestTo 3 = .ok (.iconst 1, 1) := by decide +kernel
theorem dX4_closestTo_4 : decode cX4_closestTo 4 = .ok (.iadd, 1) := by decide +kernel
theorem dX4_closestTo_5 : decode cX4_closestTo 5 = .ok (.istore 4, 2) := by decide +kernel
theorem dX4_closestTo_7 : decode cX4_closestTo 7 = .ok (.iconst 0, 1) := by decide +kernel
theorem dX4_closestTo_8 : decode cX4_closestTo 8 = .ok (.istore 5, 2) := by decide +kernel
theorem dX4_closestTo_10 : decode cX4_closestTo 10 = .ok (.iload 5, 2) := by decide +kernel
theorem dX4_closestTo_12 : decode cX4_closestTo 12 = .ok (.bipush 6, 2) := by decide +kernel
theorem dX4_closestTo_14 : decode cX4_closestTo 14 = .ok (.if_icmp .ge 52, 3) := by decide +kernel
theorem dX4_closestTo_17 : decode cX4_closestTo 17 = .ok (.aload_n 0, 1) := by decide +kernel
theorem dX4_closestTo_18 : decode cX4_closestTo 18 = .ok (.iload 5, 2) := by decide +kernel
theorem dX4_closestTo_20 : decode cX4_closestTo 20 = .ok (.invokevirtual 21, 3) := by decide +kernel
theorem dX4_closestTo_23 : decode cX4_closestTo 23 = .ok (.ifCond .eq 37, 3) := by decide +kernel
theorem dX4_closestTo_26 : decode cX4_closestTo 26 = .ok (.aload_n 0, 1) := by decide +kernel
theorem dX4_closestTo_27 : decode cX4_closestTo 27 = .ok (.getfield 9, 3) := by decide +kernel
theorem dX4_closestTo_30 : decode cX4_closestTo 30 = .ok (.iload 5, 2) := by decide +kernel
theorem dX4_closestTo_32 : decode cX4_closestTo 32 = .ok (.iaload, 1) := by decide +kernel
theorem dX4_closestTo_33 : decode cX4_closestTo 33 = .ok (.iload_n 1, 1) := by decide +kernel
theorem dX4_closestTo_34 : decode cX4_closestTo 34 = .ok (.isub, 1) := by decide +kernel
theorem dX4_closestTo_35 : decode cX4_closestTo 35 = .ok (.invokestatic 33, 3) := by decide +kernel
theorem dX4_closestTo_38 : decode cX4_closestTo 38 = .ok (.iload 4, 2) := by decide +kernel
theorem dX4_closestTo_40 : decode cX4_closestTo 40 = .ok (.if_icmp .ge 20, 3) := by decide +kernel
theorem dX4_closestTo_43 : decode cX4_closestTo 43 = .ok (.iload 5, 2) := by decide +kernel
theorem dX4_closestTo_45 : decode cX4_closestTo 45 = .ok (.istore_n 3, 1) := by decide +kernel
theorem dX4_closestTo_46 : decode cX4_closestTo 46 = .ok (.aload_n 0, 1) := by decide +kernel
theorem dX4_closestTo_47 : decode cX4_closestTo 47 = .ok (.getfield 9, 3) := by decide +kernel
theorem dX4_closestTo_50 : decode cX4_closestTo 50 = .ok (.iload 5, 2) := by decide +kernel
theorem dX4_closestTo_52 : decode cX4_closestTo 52 = .ok (.iaload, 1) := by decide +kernel
theorem dX4_closestTo_53 : decode cX4_closestTo 53 = .ok (.iload_n 1, 1) := by decide +kernel
theorem dX4_closestTo_54 : decode cX4_closestTo 54 = .ok (.isub, 1) := by decide +kernel
theorem dX4_closestTo_55 : decode cX4_closestTo 55 = .ok (.invokestatic 33, 3) := by decide +kernel
theorem dX4_closestTo_58 : decode cX4_closestTo 58 = .ok (.istore 4, 2) := by decide +kernel
theorem dX4_closestTo_60 : decode cX4_closestTo 60 = .ok (.iinc 5 1, 3) := by decide +kernel
theorem dX4_closestTo_63 : decode cX4_closestTo 63 = .ok (.goto (-53), 3) := by decide +kernel
theorem dX4_closestTo_66 : decode cX4_closestTo 66 = .ok (.iload_n 3, 1) := by decide +kernel
theorem dX4_closestTo_67 : decode cX4_closestTo 67 = .ok (.ireturn, 1) := by decide +kernel
theorem dX4_asSet_0 : decode cX4_asSet 0 = .ok (.iconst 0, 1) := by decide +kernel
theorem dX4_asSet_1 : decode cX4_asSet 1 = .ok (.istore_n 1, 1) := by decide +kernel
theorem dX4_asSet_2 : decode cX4_asSet 2 = .ok (.iconst 0, 1) := by decide +kernel
theorem dX4_asSet_3 : decode cX4_asSet 3 = .ok (.istore_n 2, 1) := by decide +kernel
theorem dX4_asSet_4 : decode cX4_asSet 4 = .ok (.iload_n 2, 1) := by decide +kernel
theorem dX4_asSet_5 : decode cX4_asSet 5 = .ok (.bipush 6, 2) := by decide +kernel
theorem dX4_asSet_7 : decode cX4_asSet 7 = .ok (.if_icmp .ge 23, 3) := by decide +kernel
theorem dX4_asSet_10 : decode cX4_asSet 10 = .ok (.aload_n 0, 1) := by decide +kernel
theorem dX4_asSet_11 : decode cX4_asSet 11 = .ok (.iload_n 2, 1) := by decide +kernel
theorem dX4_asSet_12 : decode cX4_asSet 12 = .ok (.invokevirtual 21, 3) := by decide +kernel
theorem dX4_asSet_15 : decode cX4_asSet 15 = .ok (.ifCond .eq 9, 3) := by decide +kernel
theorem dX4_asSet_18 : decode cX4_asSet 18 = .ok (.iload_n 1, 1) := by decide +kernel
theorem dX4_asSet_19 : decode cX4_asSet 19 = .ok (.iconst 1, 1) := by decide +kernel
theorem dX4_asSet_20 : decode cX4_asSet 20 = .ok (.iload_n 2, 1) := by decide +kernel
theorem dX4_asSet_21 : decode cX4_asSet 21 = .ok (.ishl, 1) := by decide +kernel
theorem dX4_asSet_22 : decode cX4_asSet 22 = .ok (.ior, 1) := by decide +kernel
theorem dX4_asSet_23 : decode cX4_asSet 23 = .ok (.istore_n 1, 1) := by decide +kernel
theorem dX4_asSet_24 : decode cX4_asSet 24 = .ok (.iinc 2 1, 3) := by decide +kernel
theorem dX4_asSet_27 : decode cX4_asSet 27 = .ok (.goto (-23), 3) := by decide +kernel
theorem dX4_asSet_30 : decode cX4_asSet 30 = .ok (.iload_n 1, 1) := by decide +kernel
theorem dX4_asSet_31 : decode cX4_asSet 31 = .ok (.ireturn, 1) := by decide +kernel
theorem dX5_init_0 : decode cX5_init 0 = .ok (.aload_n 0, 1) := by decide +kernel
theorem dX5_init_1 : decode cX5_init 1 = .ok (.invokespecial 3, 3) := by decide +kernel
theorem dX5_init_4 : decode cX5_init 4 = .ok (.aload_n 0, 1) := by decide +kernel
theorem dX5_init_5 : decode cX5_init 5 = .ok (.bipush 20, 2) := by decide +kernel
theorem dX5_init_7 : decode cX5_init 7 = .ok (.newarray .int, 2) := by decide +kernel
theorem dX5_init_9 : decode cX5_init 9 = .ok (.putfield 9, 3) := by decide +kernel
theorem dX5_init_12 : decode cX5_init 12 = .ok (.aload_n 0, 1) := by decide +kernel
theorem dX5_init_13 : decode cX5_init 13 = .ok (.aload_n 1, 1) := by decide +kernel
theorem dX5_init_14 : decode cX5_init 14 = .ok (.putfield 15, 3) := by decide +kernel
theorem dX5_init_17 : decode cX5_init 17 = .ok (.aload_n 0, 1) := by decide +kernel
theorem dX5_init_18 : decode cX5_init 18 = .ok (.aload_n 1, 1) := by decide +kernel
theorem dX5_init_19 : decode cX5_init 19 = .ok (.getfield 19, 3) := by decide +kernel
theorem dX5_init_22 : decode cX5_init 22 = .ok (.putfield 25, 3) := by decide +kernel
theorem dX5_init_25 : decode cX5_init 25 = .ok (.aload_n 0, 1) := by decide +kernel
theorem dX5_init_26 : decode cX5_init 26 = .ok (.aload_n 1, 1) := by decide +kernel
theorem dX5_init_27 : decode cX5_init 27 = .ok (.getfield 26, 3) := by decide +kernel
theorem dX5_init_30 : decode cX5_init 30 = .ok (.putfield 30, 3) := by decide +kernel
theorem dX5_init_33 : decode cX5_init 33 = .ok (.aload_n 0, 1) := by decide +kernel
theorem dX5_init_34 : decode cX5_init 34 = .ok (.aload_n 1, 1) := by decide +kernel
theorem dX5_init_35 : decode cX5_init 35 = .ok (.getfield 31, 3) := by decide +kernel
theorem dX5_init_38 : decode cX5_init 38 = .ok (.putfield 35, 3) := by decide +kernel
theorem dX5_init_41 : decode cX5_init 41 = .ok (.return_, 1) := by decide +kernel
theorem dX5_ofTurn_0 : decode cX5_ofTurn 0 = .ok (.aload_n 0, 1) := by decide +kernel
theorem dX5_ofTurn_1 : decode cX5_ofTurn 1 = .ok (.getfield 25, 3) := by decide +kernel
theorem dX5_ofTurn_4 : decode cX5_ofTurn 4 = .ok (.iload_n 1, 1) := by decide +kernel
theorem dX5_ofTurn_5 : decode cX5_ofTurn 5 = .ok (.invokevirtual 36, 3) := by decide +kernel
theorem dX5_ofTurn_8 : decode cX5_ofTurn 8 = .ok (.ifCond .ne 6, 3) := by decide +kernel
theorem dX5_ofTurn_11 : decode cX5_ofTurn 11 = .ok (.ldc 42, 2) := by decide +kernel
theorem dX5_ofTurn_13 : decode cX5_ofTurn 13 = .ok (.ireturn, 1) := by decide +kernel
theorem dX5_ofTurn_14 : decode cX5_ofTurn 14 = .ok (.iload_n 2, 1) := by decide +kernel
theorem dX5_ofTurn_15 : decode cX5_ofTurn 15 = .ok (.tableswitch 120 0 7 #[45, 54, 63, 72, 84, 93, 102, 111], 45) := by decide +kernel
theorem dX5_ofTurn_60 : decode cX5_ofTurn 60 = .ok (.aload_n 0, 1) := by decide +kernel
theorem dX5_ofTurn_61 : decode cX5_ofTurn 61 = .ok (.getfield 25, 3) := by decide +kernel
theorem dX5_ofTurn_64 : decode cX5_ofTurn 64 = .ok (.iload_n 1, 1) := by decide +kernel
theorem dX5_ofTurn_65 : decode cX5_ofTurn 65 = .ok (.invokevirtual 43, 3) := by decide +kernel
theorem dX5_ofTurn_68 : decode cX5_ofTurn 68 = .ok (.ireturn, 1) := by decide +kernel
theorem dX5_ofTurn_69 : decode cX5_ofTurn 69 = .ok (.aload_n 0, 1) := by decide +kernel
theorem dX5_ofTurn_70 : decode cX5_ofTurn 70 = .ok (.getfield 25, 3) := by decide +kernel
theorem dX5_ofTurn_73 : decode cX5_ofTurn 73 = .ok (.iload_n 1, 1) := by decide +kernel
theorem dX5_ofTurn_74 : decode cX5_ofTurn 74 = .ok (.invokevirtual 47, 3) := by decide +kernel
theorem dX5_ofTurn_77 : decode cX5_ofTurn 77 = .ok (.ireturn, 1) := by decide +kernel
theorem dX5_ofTurn_78 : decode cX5_ofTurn 78 = .ok (.aload_n 0, 1) := by decide +kernel
theorem dX5_ofTurn_79 : decode cX5_ofTurn 79 = .ok (.getfield 25, 3) := by decide +kernel
theorem dX5_ofTurn_82 : decode cX5_ofTurn 82 = .ok (.iload_n 1, 1) := by decide +kernel
theorem dX5_ofTurn_83 : decode cX5_ofTurn 83 = .ok (.invokevirtual 50, 3) := by decide +kernel
theorem dX5_ofTurn_86 : decode cX5_ofTurn 86 = .ok (.ireturn, 1) := by decide +kernel
theorem dX5_ofTurn_87 : decode cX5_ofTurn 87 = .ok (.aload_n 0, 1) := by decide +kernel
theorem dX5_ofTurn_88 : decode cX5_ofTurn 88 = .ok (.getfield 25, 3) := by decide +kernel
theorem dX5_ofTurn_91 : decode cX5_ofTurn 91 = .ok (.iload_n 1, 1) := by decide +kernel
theorem dX5_ofTurn_92 : decode cX5_ofTurn 92 = .ok (.invokevirtual 53, 3) := by decide +kernel
theorem dX5_ofTurn_95 : decode cX5_ofTurn 95 = .ok (.invokestatic 56, 3) := by decide +kernel
theorem dX5_ofTurn_98 : decode cX5_ofTurn 98 = .ok (.ireturn, 1) := by decide +kernel
theorem dX5_ofTurn_99 : decode cX5_ofTurn 99 = .ok (.aload_n 0, 1) := by decide +kernel
theorem dX5_ofTurn_100 : decode cX5_ofTurn 100 = .ok (.getfield 25, 3) := by decide +kernel
theorem dX5_ofTurn_103 : decode cX5_ofTurn 103 = .ok (.iload_n 1, 1) := by decide +kernel
theorem dX5_ofTurn_104 : decode cX5_ofTurn 104 = .ok (.invokevirtual 59, 3) := by decide +kernel
theorem dX5_ofTurn_107 : decode cX5_ofTurn 107 = .ok (.ireturn, 1) := by decide +kernel
theorem dX5_ofTurn_108 : decode cX5_ofTurn 108 = .ok (.aload_n 0, 1) := by decide +kernel
theorem dX5_ofTurn_109 : decode cX5_ofTurn 109 = .ok (.getfield 25, 3) := by decide +kernel
theorem dX5_ofTurn_112 : decode cX5_ofTurn 112 = .ok (.iload_n 1, 1) := by decide +kernel
theorem dX5_ofTurn_113 : decode cX5_ofTurn 113 = .ok (.invokevirtual 62, 3) := by decide +kernel
theorem dX5_ofTurn_116 : decode cX5_ofTurn 116 = .ok (.ireturn, 1) := by decide +kernel
theorem dX5_ofTurn_117 : decode cX5_ofTurn 117 = .ok (.aload_n 0, 1) := by decide +kernel
theorem dX5_ofTurn_118 : decode cX5_ofTurn 118 = .ok (.getfield 25, 3) := by decide +kernel
theorem dX5_ofTurn_121 : decode cX5_ofTurn 121 = .ok (.iload_n 1, 1) := by decide +kernel
theorem dX5_ofTurn_122 : decode cX5_ofTurn 122 = .ok (.invokevirtual 65, 3) := by decide +kernel
theorem dX5_ofTurn_125 : decode cX5_ofTurn 125 = .ok (.ireturn, 1) := by decide +kernel
theorem dX5_ofTurn_126 : decode cX5_ofTurn 126 = .ok (.aload_n 0, 1) := by decide +kernel
theorem dX5_ofTurn_127 : decode cX5_ofTurn 127 = .ok (.getfield 25, 3) := by decide +kernel
theorem dX5_ofTurn_130 : decode cX5_ofTurn 130 = .ok (.iload_n 1, 1) := by decide +kernel
theorem dX5_ofTurn_131 : decode cX5_ofTurn 131 = .ok (.invokevirtual 68, 3) := by decide +kernel
theorem dX5_ofTurn_134 : decode cX5_ofTurn 134 = .ok (.ireturn, 1) := by decide +kernel
theorem dX5_ofTurn_135 : decode cX5_ofTurn 135 = .ok (.ldc 42, 2) := by decide +kernel
theorem dX5_ofTurn_137 : decode cX5_ofTurn 137 = .ok (.ireturn, 1) := by decide +kernel
theorem dX5_ofPlace_0 : decode cX5_ofPlace 0 = .ok (.aload_n 0, 1) := by decide +kernel
theorem dX5_ofPlace_1 : decode cX5_ofPlace 1 = .ok (.getfield 25, 3) := by decide +kernel
theorem dX5_ofPlace_4 : decode cX5_ofPlace 4 = .ok (.iload_n 1, 1) := by decide +kernel
theorem dX5_ofPlace_5 : decode cX5_ofPlace 5 = .ok (.invokevirtual 36, 3) := by decide +kernel
theorem dX5_ofPlace_8 : decode cX5_ofPlace 8 = .ok (.ifCond .eq 16, 3) := by decide +kernel
theorem dX5_ofPlace_11 : decode cX5_ofPlace 11 = .ok (.iload_n 2, 1) := by decide +kernel
theorem dX5_ofPlace_12 : decode cX5_ofPlace 12 = .ok (.ifCond .lt 12, 3) := by decide +kernel
theorem dX5_ofPlace_15 : decode cX5_ofPlace 15 = .ok (.iload_n 3, 1) := by decide +kernel
theorem dX5_ofPlace_16 : decode cX5_ofPlace 16 = .ok (.iconst 0, 1) := by decide +kernel
theorem dX5_ofPlace_17 : decode cX5_ofPlace 17 = .ok (.iconst 1, 1) := by decide +kernel
theorem dX5_ofPlace_18 : decode cX5_ofPlace 18 = .ok (.invokestatic 71, 3) := by decide +kernel
theorem dX5_ofPlace_21 : decode cX5_ofPlace 21 = .ok (.ifCond .ne 6, 3) := by decide +kernel
theorem dX5_ofPlace_24 : decode cX5_ofPlace 24 = .ok (.ldc 42, 2) := by decide +kernel
theorem dX5_ofPlace_26 : decode cX5_ofPlace 26 = .ok (.ireturn, 1) := by decide +kernel
theorem dX5_ofPlace_27 : decode cX5_ofPlace 27 = .ok (.iload_n 2, 1) := by decide +kernel
theorem dX5_ofPlace_28 : decode cX5_ofPlace 28 = .ok (.aload_n 0, 1) := by decide +kernel
theorem dX5_ofPlace_29 : decode cX5_ofPlace 29 = .ok (.getfield 25, 3) := by decide +kernel
theorem dX5_ofPlace_32 : decode cX5_ofPlace 32 = .ok (.iload_n 1, 1) := by decide +kernel
theorem dX5_ofPlace_33 : decode cX5_ofPlace 33 = .ok (.invokevirtual 59, 3) := by decide +kernel
theorem dX5_ofPlace_36 : decode cX5_ofPlace 36 = .ok (.if_icmp .lt 6, 3) := by decide +kernel
theorem dX5_ofPlace_39 : decode cX5_ofPlace 39 = .ok (.ldc 75, 2) := by decide +kernel
theorem dX5_ofPlace_41 : decode cX5_ofPlace 41 = .ok (.ireturn, 1) := by decide +kernel
theorem dX5_ofPlace_42 : decode cX5_ofPlace 42 = .ok (.aload_n 0, 1) := by decide +kernel
theorem dX5_ofPlace_43 : decode cX5_ofPlace 43 = .ok (.getfield 25, 3) := by decide +kernel
theorem dX5_ofPlace_46 : decode cX5_ofPlace 46 = .ok (.iload_n 1, 1) := by decide +kernel
theorem dX5_ofPlace_47 : decode cX5_ofPlace 47 = .ok (.iload_n 2, 1) := by decide +kernel
theorem dX5_ofPlace_48 : decode cX5_ofPlace 48 = .ok (.invokevirtual 76, 3) := by decide +kernel
theorem dX5_ofPlace_51 : decode cX5_ofPlace 51 = .ok (.istore 4, 2) := by decide +kernel
theorem dX5_ofPlace_53 : decode cX5_ofPlace 53 = .ok (.iload_n 3, 1) := by decide +kernel
theorem dX5_ofPlace_54 : decode cX5_ofPlace 54 = .ok (.ifCond .ne 8, 3) := by decide +kernel
theorem dX5_ofPlace_57 : decode cX5_ofPlace 57 = .ok (.iload 4, 2) := by decide +kernel
theorem dX5_ofPlace_59 : decode cX5_ofPlace 59 = .ok (.goto 12, 3) := by decide +kernel
theorem dX5_ofPlace_62 : decode cX5_ofPlace 62 = .ok (.aload_n 0, 1) := by decide +kernel
theorem dX5_ofPlace_63 : decode cX5_ofPlace 63 = .ok (.getfield 30, 3) := by decide +kernel
theorem dX5_ofPlace_66 : decode cX5_ofPlace 66 = .ok (.iload 4, 2) := by decide +kernel
theorem dX5_ofPlace_68 : decode cX5_ofPlace 68 = .ok (.invokevirtual 80, 3) := by decide +kernel
theorem dX5_ofPlace_71 : decode cX5_ofPlace 71 = .ok (.ireturn, 1) := by decide +kernel
theorem dX5_ofTerm_0 : decode cX5_ofTerm 0 = .ok (.iload_n 1, 1) := by decide +kernel
theorem dX5_ofTerm_1 : decode cX5_ofTerm 1 = .ok (.invokestatic 85, 3) := by decide +kernel
theorem dX5_ofTerm_4 : decode cX5_ofTerm 4 = .ok (.ifCond .ne 6, 3) := by decide +kernel
theorem dX5_ofTerm_7 : decode cX5_ofTerm 7 = .ok (.ldc 42, 2) := by decide +kernel
theorem dX5_ofTerm_9 : decode cX5_ofTerm 9 = .ok (.ireturn, 1) := by decide +kernel
theorem dX5_ofTerm_10 : decode cX5_ofTerm 10 = .ok (.iload_n 2, 1) := by decide +kernel
theorem dX5_ofTerm_11 : decode cX5_ofTerm 11 = .ok (.tableswitch 98 0 6 #[41, 53, 62, 71, 77, 83, 89], 41) := by decide +kernel
theorem dX5_ofTerm_52 : decode cX5_ofTerm 52 = .ok (.aload_n 0, 1) := by decide +kernel
theorem dX5_ofTerm_53 : decode cX5_ofTerm 53 = .ok (.getfield 30, 3) := by decide +kernel
theorem dX5_ofTerm_56 : decode cX5_ofTerm 56 = .ok (.iload_n 1, 1) := by decide +kernel
theorem dX5_ofTerm_57 : decode cX5_ofTerm 57 = .ok (.invokevirtual 88, 3) := by decide +kernel
theorem dX5_ofTerm_60 : decode cX5_ofTerm 60 = .ok (.invokestatic 56, 3) := by decide +kernel
theorem dX5_ofTerm_63 : decode cX5_ofTerm 63 = .ok (.ireturn, 1) := by decide +kernel
theorem dX5_ofTerm_64 : decode cX5_ofTerm 64 = .ok (.aload_n 0, 1) := by decide +kernel
theorem dX5_ofTerm_65 : decode cX5_ofTerm 65 = .ok (.getfield 30, 3) := by decide +kernel
theorem dX5_ofTerm_68 : decode cX5_ofTerm 68 = .ok (.iload_n 1, 1) := by decide +kernel
theorem dX5_ofTerm_69 : decode cX5_ofTerm 69 = .ok (.invokevirtual 80, 3) := by decide +kernel
theorem dX5_ofTerm_72 : decode cX5_ofTerm 72 = .ok (.ireturn, 1) := by decide +kernel
theorem dX5_ofTerm_73 : decode cX5_ofTerm 73 = .ok (.aload_n 0, 1) := by decide +kernel
theorem dX5_ofTerm_74 : decode cX5_ofTerm 74 = .ok (.getfield 30, 3) := by decide +kernel
theorem dX5_ofTerm_77 : decode cX5_ofTerm 77 = .ok (.iload_n 1, 1) := by decide +kernel
theorem dX5_ofTerm_78 : decode cX5_ofTerm 78 = .ok (.invokevirtual 91, 3) := by decide +kernel
theorem dX5_ofTerm_81 : decode cX5_ofTerm 81 = .ok (.ireturn, 1) := by decide +kernel
theorem dX5_ofTerm_82 : decode cX5_ofTerm 82 = .ok (.aload_n 0, 1) := by decide +kernel
theorem dX5_ofTerm_83 : decode cX5_ofTerm 83 = .ok (.iload_n 1, 1) := by decide +kernel
theorem dX5_ofTerm_84 : decode cX5_ofTerm 84 = .ok (.invokevirtual 94, 3) := by decide +kernel
theorem dX5_ofTerm_87 : decode cX5_ofTerm 87 = .ok (.ireturn, 1) := by decide +kernel
theorem dX5_ofTerm_88 : decode cX5_ofTerm 88 = .ok (.aload_n 0, 1) := by decide +kernel
theorem dX5_ofTerm_89 : decode cX5_ofTerm 89 = .ok (.iload_n 1, 1) := by decide +kernel
theorem dX5_ofTerm_90 : decode cX5_ofTerm 90 = .ok (.invokevirtual 97, 3) := by decide +kernel
theorem dX5_ofTerm_93 : decode cX5_ofTerm 93 = .ok (.ireturn, 1) := by decide +kernel
theorem dX5_ofTerm_94 : decode cX5_ofTerm 94 = .ok (.aload_n 0, 1) := by decide +kernel
theorem dX5_ofTerm_95 : decode cX5_ofTerm 95 = .ok (.iload_n 1, 1) := by decide +kernel
theorem dX5_ofTerm_96 : decode cX5_ofTerm 96 = .ok (.invokevirtual 100, 3) := by decide +kernel
theorem dX5_ofTerm_99 : decode cX5_ofTerm 99 = .ok (.ireturn, 1) := by decide +kernel
theorem dX5_ofTerm_100 : decode cX5_ofTerm 100 = .ok (.aload_n 0, 1) := by decide +kernel
theorem dX5_ofTerm_101 : decode cX5_ofTerm 101 = .ok (.getfield 30, 3) := by decide +kernel
theorem dX5_ofTerm_104 : decode cX5_ofTerm 104 = .ok (.iload_n 1, 1) := by decide +kernel
theorem dX5_ofTerm_105 : decode cX5_ofTerm 105 = .ok (.invokevirtual 103, 3) := by decide +kernel
theorem dX5_ofTerm_108 : decode cX5_ofTerm 108 = .ok (.ireturn, 1) := by decide +kernel
theorem dX5_ofTerm_109 : decode cX5_ofTerm 109 = .ok (.ldc 42, 2) := by decide +kernel
theorem dX5_ofTerm_111 : decode cX5_ofTerm 111 = .ok (.ireturn, 1) := by decide +kernel
theorem dX5_ofSpeaker_0 : decode cX5_ofSpeaker 0 = .ok (.aload_n 0, 1) := by decide +kernel
theorem dX5_ofSpeaker_1 : decode cX5_ofSpeaker 1 = .ok (.getfield 35, 3) := by decide +kernel
theorem dX5_ofSpeaker_4 : decode cX5_ofSpeaker 4 = .ok (.iload_n 1, 1) := by decide +kernel
theorem dX5_ofSpeaker_5 : decode cX5_ofSpeaker 5 = .ok (.invokevirtual 106, 3) := by decide +kernel
theorem dX5_ofSpeaker_8 : decode cX5_ofSpeaker 8 = .ok (.ifCond .ne 6, 3) := by decide +kernel
theorem dX5_ofSpeaker_11 : decode cX5_ofSpeaker 11 = .ok (.ldc 42, 2) := by decide +kernel
theorem dX5_ofSpeaker_13 : decode cX5_ofSpeaker 13 = .ok (.ireturn, 1) := by decide +kernel
theorem dX5_ofSpeaker_14 : decode cX5_ofSpeaker 14 = .ok (.iload_n 2, 1) := by decide +kernel
theorem dX5_ofSpeaker_15 : decode cX5_ofSpeaker 15 = .ok (.tableswitch 92 0 6 #[41, 50, 59, 68, 74, 80, 86], 41) := by decide +kernel
theorem dX5_ofSpeaker_56 : decode cX5_ofSpeaker 56 = .ok (.aload_n 0, 1) := by decide +kernel
theorem dX5_ofSpeaker_57 : decode cX5_ofSpeaker 57 = .ok (.getfield 35, 3) := by decide +kernel
theorem dX5_ofSpeaker_60 : decode cX5_ofSpeaker 60 = .ok (.iload_n 1, 1) := by decide +kernel
theorem dX5_ofSpeaker_61 : decode cX5_ofSpeaker 61 = .ok (.invokevirtual 109, 3) := by decide +kernel
theorem dX5_ofSpeaker_64 : decode cX5_ofSpeaker 64 = .ok (.ireturn, 1) := by decide +kernel
theorem dX5_ofSpeaker_65 : decode cX5_ofSpeaker 65 = .ok (.aload_n 0, 1) := by decide +kernel
theorem dX5_ofSpeaker_66 : decode cX5_ofSpeaker 66 = .ok (.getfield 25, 3) := by decide +kernel
theorem dX5_ofSpeaker_69 : decode cX5_ofSpeaker 69 = .ok (.iload_n 1, 1) := by decide +kernel
theorem dX5_ofSpeaker_70 : decode cX5_ofSpeaker 70 = .ok (.invokevirtual 110, 3) := by decide +kernel
theorem dX5_ofSpeaker_73 : decode cX5_ofSpeaker 73 = .ok (.ireturn, 1) := by decide +kernel
theorem dX5_ofSpeaker_74 : decode cX5_ofSpeaker 74 = .ok (.aload_n 0, 1) := by decide +kernel
theorem dX5_ofSpeaker_75 : decode cX5_ofSpeaker 75 = .ok (.getfield 25, 3) := by decide +kernel
theorem dX5_ofSpeaker_78 : decode cX5_ofSpeaker 78 = .ok (.iload_n 1, 1) := by decide +kernel
theorem dX5_ofSpeaker_79 : decode cX5_ofSpeaker 79 = .ok (.invokevirtual 113, 3) := by decide +kernel
theorem dX5_ofSpeaker_82 : decode cX5_ofSpeaker 82 = .ok (.ireturn, 1) := by decide +kernel
theorem dX5_ofSpeaker_83 : decode cX5_ofSpeaker 83 = .ok (.aload_n 0, 1) := by decide +kernel
theorem dX5_ofSpeaker_84 : decode cX5_ofSpeaker 84 = .ok (.iload_n 1, 1) := by decide +kernel
theorem dX5_ofSpeaker_85 : decode cX5_ofSpeaker 85 = .ok (.invokevirtual 116, 3) := by decide +kernel
theorem dX5_ofSpeaker_88 : decode cX5_ofSpeaker 88 = .ok (.ireturn, 1) := by decide +kernel
theorem dX5_ofSpeaker_89 : decode cX5_ofSpeaker 89 = .ok (.aload_n 0, 1) := by decide +kernel
theorem dX5_ofSpeaker_90 : decode cX5_ofSpeaker 90 = .ok (.iload_n 1, 1) := by decide +kernel
theorem dX5_ofSpeaker_91 : decode cX5_ofSpeaker 91 = .ok (.invokevirtual 119, 3) := by decide +kernel
theorem dX5_ofSpeaker_94 : decode cX5_ofSpeaker 94 = .ok (.ireturn, 1) := by decide +kernel
theorem dX5_ofSpeaker_95 : decode cX5_ofSpeaker 95 = .ok (.aload_n 0, 1) := by decide +kernel
theorem dX5_ofSpeaker_96 : decode cX5_ofSpeaker 96 = .ok (.iload_n 1, 1) := by decide +kernel
theorem dX5_ofSpeaker_97 : decode cX5_ofSpeaker 97 = .ok (.invokevirtual 122, 3) := by decide +kernel
theorem dX5_ofSpeaker_100 : decode cX5_ofSpeaker 100 = .ok (.ireturn, 1) := by decide +kernel
theorem dX5_ofSpeaker_101 : decode cX5_ofSpeaker 101 = .ok (.aload_n 0, 1) := by decide +kernel
theorem dX5_ofSpeaker_102 : decode cX5_ofSpeaker 102 = .ok (.iload_n 1, 1) := by decide +kernel
theorem dX5_ofSpeaker_103 : decode cX5_ofSpeaker 103 = .ok (.invokevirtual 125, 3) := by decide +kernel
theorem dX5_ofSpeaker_106 : decode cX5_ofSpeaker 106 = .ok (.ireturn, 1) := by decide +kernel
theorem dX5_ofSpeaker_107 : decode cX5_ofSpeaker 107 = .ok (.ldc 42, 2) := by decide +kernel
theorem dX5_ofSpeaker_109 : decode cX5_ofSpeaker 109 = .ok (.ireturn, 1) := by decide +kernel
theorem dX5_ofSecond_0 : decode cX5_ofSecond 0 = .ok (.iload_n 1, 1) := by decide +kernel
theorem dX5_ofSecond_1 : decode cX5_ofSecond 1 = .ok (.iconst 0, 1) := by decide +kernel
theorem dX5_ofSecond_2 : decode cX5_ofSecond 2 = .ok (.sipush 1999, 3) := by decide +kernel
theorem dX5_ofSecond_5 : decode cX5_ofSecond 5 = .ok (.invokestatic 71, 3) := by decide +kernel
theorem dX5_ofSecond_8 : decode cX5_ofSecond 8 = .ok (.ifCond .eq 12, 3) := by decide +kernel
theorem dX5_ofSecond_11 : decode cX5_ofSecond 11 = .ok (.iload_n 2, 1) := by decide +kernel
theorem dX5_ofSecond_12 : decode cX5_ofSecond 12 = .ok (.iconst 0, 1) := by decide +kernel
theorem dX5_ofSecond_13 : decode cX5_ofSecond 13 = .ok (.iconst 1, 1) := by decide +kernel
theorem dX5_ofSecond_14 : decode cX5_ofSecond 14 = .ok (.invokestatic 71, 3) := by decide +kernel
theorem dX5_ofSecond_17 : decode cX5_ofSecond 17 = .ok (.ifCond .ne 6, 3) := by decide +kernel
theorem dX5_ofSecond_20 : decode cX5_ofSecond 20 = .ok (.ldc 42, 2) := by decide +kernel
theorem dX5_ofSecond_22 : decode cX5_ofSecond 22 = .ok (.ireturn, 1) := by decide +kernel
theorem dX5_ofSecond_23 : decode cX5_ofSecond 23 = .ok (.iload_n 2, 1) := by decide +kernel
theorem dX5_ofSecond_24 : decode cX5_ofSecond 24 = .ok (.ifCond .ne 14, 3) := by decide +kernel
theorem dX5_ofSecond_27 : decode cX5_ofSecond 27 = .ok (.aload_n 0, 1) := by decide +kernel
theorem dX5_ofSecond_28 : decode cX5_ofSecond 28 = .ok (.getfield 25, 3) := by decide +kernel
theorem dX5_ofSecond_31 : decode cX5_ofSecond 31 = .ok (.iload_n 1, 1) := by decide +kernel
theorem dX5_ofSecond_32 : decode cX5_ofSecond 32 = .ok (.invokevirtual 128, 3) := by decide +kernel
theorem dX5_ofSecond_35 : decode cX5_ofSecond 35 = .ok (.goto 11, 3) := by decide +kernel
theorem dX5_ofSecond_38 : decode cX5_ofSecond 38 = .ok (.aload_n 0, 1) := by decide +kernel
theorem dX5_ofSecond_39 : decode cX5_ofSecond 39 = .ok (.getfield 25, 3) := by decide +kernel
theorem dX5_ofSecond_42 : decode cX5_ofSecond 42 = .ok (.iload_n 1, 1) := by decide +kernel
theorem dX5_ofSecond_43 : decode cX5_ofSecond 43 = .ok (.invokevirtual 131, 3) := by decide +kernel
theorem dX5_ofSecond_46 : decode cX5_ofSecond 46 = .ok (.ireturn, 1) := by decide +kernel
theorem dX5_ofInterruptions_0 : decode cX5_ofInterruptions 0 = .ok (.aload_n 0, 1) := by decide +kernel
theorem dX5_ofInterruptions_1 : decode cX5_ofInterruptions 1 = .ok (.getfield 35, 3) := by decide +kernel
theorem dX5_ofInterruptions_4 : decode cX5_ofInterruptions 4 = .ok (.iload_n 1, 1) := by decide +kernel
theorem dX5_ofInterruptions_5 : decode cX5_ofInterruptions 5 = .ok (.invokevirtual 106, 3) := by decide +kernel
theorem dX5_ofInterruptions_8 : decode cX5_ofInterruptions 8 = .ok (.ifCond .eq 19, 3) := by decide +kernel
theorem dX5_ofInterruptions_11 : decode cX5_ofInterruptions 11 = .ok (.aload_n 0, 1) := by decide +kernel
theorem dX5_ofInterruptions_12 : decode cX5_ofInterruptions 12 = .ok (.getfield 35, 3) := by decide +kernel
theorem dX5_ofInterruptions_15 : decode cX5_ofInterruptions 15 = .ok (.iload_n 2, 1) := by decide +kernel
theorem dX5_ofInterruptions_16 : decode cX5_ofInterruptions 16 = .ok (.invokevirtual 106, 3) := by decide +kernel
theorem dX5_ofInterruptions_19 : decode cX5_ofInterruptions 19 = .ok (.ifCond .eq 8, 3) := by decide +kernel
theorem dX5_ofInterruptions_22 : decode cX5_ofInterruptions 22 = .ok (.iload_n 1, 1) := by decide +kernel
theorem dX5_ofInterruptions_23 : decode cX5_ofInterruptions 23 = .ok (.iload_n 2, 1) := by decide +kernel
theorem dX5_ofInterruptions_24 : decode cX5_ofInterruptions 24 = .ok (.if_icmp .ne 6, 3) := by decide +kernel
theorem dX5_ofInterruptions_27 : decode cX5_ofInterruptions 27 = .ok (.ldc 42, 2) := by decide +kernel
theorem dX5_ofInterruptions_29 : decode cX5_ofInterruptions 29 = .ok (.ireturn, 1) := by decide +kernel
theorem dX5_ofInterruptions_30 : decode cX5_ofInterruptions 30 = .ok (.aload_n 0, 1) := by decide +kernel
theorem dX5_ofInterruptions_31 : decode cX5_ofInterruptions 31 = .ok (.getfield 25, 3) := by decide +kernel
theorem dX5_ofInterruptions_34 : decode cX5_ofInterruptions 34 = .ok (.iload_n 1, 1) := by decide +kernel
theorem dX5_ofInterruptions_35 : decode cX5_ofInterruptions 35 = .ok (.iload_n 2, 1) := by decide +kernel
theorem dX5_ofInterruptions_36 : decode cX5_ofInterruptions 36 = .ok (.invokevirtual 134, 3) := by decide +kernel
theorem dX5_ofInterruptions_39 : decode cX5_ofInterruptions 39 = .ok (.ireturn, 1) := by decide +kernel
theorem dX5_ofPitch_0 : decode cX5_ofPitch 0 = .ok (.iload_n 1, 1) := by decide +kernel
theorem dX5_ofPitch_1 : decode cX5_ofPitch 1 = .ok (.invokestatic 137, 3) := by decide +kernel
theorem dX5_ofPitch_4 : decode cX5_ofPitch 4 = .ok (.ifCond .ne 6, 3) := by decide +kernel
theorem dX5_ofPitch_7 : decode cX5_ofPitch 7 = .ok (.ldc 42, 2) := by decide +kernel
theorem dX5_ofPitch_9 : decode cX5_ofPitch 9 = .ok (.ireturn, 1) := by decide +kernel
theorem dX5_ofPitch_10 : decode cX5_ofPitch 10 = .ok (.aload_n 0, 1) := by decide +kernel
theorem dX5_ofPitch_11 : decode cX5_ofPitch 11 = .ok (.getfield 15, 3) := by decide +kernel
theorem dX5_ofPitch_14 : decode cX5_ofPitch 14 = .ok (.iload_n 1, 1) := by decide +kernel
theorem dX5_ofPitch_15 : decode cX5_ofPitch 15 = .ok (.invokevirtual 140, 3) := by decide +kernel
theorem dX5_ofPitch_18 : decode cX5_ofPitch 18 = .ok (.invokestatic 56, 3) := by decide +kernel
theorem dX5_ofPitch_21 : decode cX5_ofPitch 21 = .ok (.ireturn, 1) := by decide +kernel
theorem dX5_ofCorrection_0 : decode cX5_ofCorrection 0 = .ok (.aload_n 0, 1) := by decide +kernel
theorem dX5_ofCorrection_1 : decode cX5_ofCorrection 1 = .ok (.getfield 30, 3) := by decide +kernel
theorem dX5_ofCorrection_4 : decode cX5_ofCorrection 4 = .ok (.iload_n 1, 1) := by decide +kernel
theorem dX5_ofCorrection_5 : decode cX5_ofCorrection 5 = .ok (.iload_n 2, 1) := by decide +kernel
theorem dX5_ofCorrection_6 : decode cX5_ofCorrection 6 = .ok (.invokevirtual 143, 3) := by decide +kernel
theorem dX5_ofCorrection_9 : decode cX5_ofCorrection 9 = .ok (.istore_n 3, 1) := by decide +kernel
theorem dX5_ofCorrection_10 : decode cX5_ofCorrection 10 = .ok (.iload_n 3, 1) := by decide +kernel
theorem dX5_ofCorrection_11 : decode cX5_ofCorrection 11 = .ok (.ifCond .eq 7, 3) := by decide +kernel
theorem dX5_ofCorrection_14 : decode cX5_ofCorrection 14 = .ok (.iload_n 3, 1) := by decide +kernel
theorem dX5_ofCorrection_15 : decode cX5_ofCorrection 15 = .ok (.goto 19, 3) := by decide +kernel
theorem dX5_ofCorrection_18 : decode cX5_ofCorrection 18 = .ok (.aload_n 0, 1) := by decide +kernel
theorem dX5_ofCorrection_19 : decode cX5_ofCorrection 19 = .ok (.getfield 15, 3) := by decide +kernel
theorem dX5_ofCorrection_22 : decode cX5_ofCorrection 22 = .ok (.iload_n 1, 1) := by decide +kernel
theorem dX5_ofCorrection_23 : decode cX5_ofCorrection 23 = .ok (.aload_n 0, 1) := by decide +kernel
theorem dX5_ofCorrection_24 : decode cX5_ofCorrection 24 = .ok (.getfield 30, 3) := by decide +kernel
theorem dX5_ofCorrection_27 : decode cX5_ofCorrection 27 = .ok (.iload_n 2, 1) := by decide +kernel
theorem dX5_ofCorrection_28 : decode cX5_ofCorrection 28 = .ok (.invokevirtual 80, 3) := by decide +kernel
theorem dX5_ofCorrection_31 : decode cX5_ofCorrection 31 = .ok (.invokevirtual 146, 3) := by decide +kernel
theorem dX5_ofCorrection_34 : decode cX5_ofCorrection 34 = .ok (.ireturn, 1) := by decide +kernel
theorem dX5_ofPairs_0 : decode cX5_ofPairs 0 = .ok (.iload_n 1, 1) := by decide +kernel
theorem dX5_ofPairs_1 : decode cX5_ofPairs 1 = .ok (.iconst 0, 1) := by decide +kernel
theorem dX5_ofPairs_2 : decode cX5_ofPairs 2 = .ok (.iconst 2, 1) := by decide +kernel
theorem dX5_ofPairs_3 : decode cX5_ofPairs 3 = .ok (.invokestatic 71, 3) := by decide +kernel
theorem dX5_ofPairs_6 : decode cX5_ofPairs 6 = .ok (.ifCond .ne 6, 3) := by decide +kernel
theorem dX5_ofPairs_9 : decode cX5_ofPairs 9 = .ok (.ldc 42, 2) := by decide +kernel
theorem dX5_ofPairs_11 : decode cX5_ofPairs 11 = .ok (.ireturn, 1) := by decide +kernel
theorem dX5_ofPairs_12 : decode cX5_ofPairs 12 = .ok (.aload_n 0, 1) := by decide +kernel
theorem dX5_ofPairs_13 : decode cX5_ofPairs 13 = .ok (.invokevirtual 149, 3) := by decide +kernel
theorem dX5_ofPairs_16 : decode cX5_ofPairs 16 = .ok (.iconst 0, 1) := by decide +kernel
theorem dX5_ofPairs_17 : decode cX5_ofPairs 17 = .ok (.istore_n 2, 1) := by decide +kernel
theorem dX5_ofPairs_18 : decode cX5_ofPairs 18 = .ok (.iconst 0, 1) := by decide +kernel
theorem dX5_ofPairs_19 : decode cX5_ofPairs 19 = .ok (.istore_n 3, 1) := by decide +kernel
theorem dX5_ofPairs_20 : decode cX5_ofPairs 20 = .ok (.iconst 0, 1) := by decide +kernel
theorem dX5_ofPairs_21 : decode cX5_ofPairs 21 = .ok (.istore 4, 2) := by decide +kernel
theorem dX5_ofPairs_23 : decode cX5_ofPairs 23 = .ok (.iconst 0, 1) := by decide +kernel
theorem dX5_ofPairs_24 : decode cX5_ofPairs 24 = .ok (.istore 5, 2) := by decide +kernel
theorem dX5_ofPairs_26 : decode cX5_ofPairs 26 = .ok (.iload 5, 2) := by decide +kernel
theorem dX5_ofPairs_28 : decode cX5_ofPairs 28 = .ok (.bipush 16, 2) := by decide +kernel
theorem dX5_ofPairs_30 : decode cX5_ofPairs 30 = .ok (.if_icmp .ge 55, 3) := by decide +kernel
theorem dX5_ofPairs_33 : decode cX5_ofPairs 33 = .ok (.iload 5, 2) := by decide +kernel
theorem dX5_ofPairs_35 : decode cX5_ofPairs 35 = .ok (.iconst 1, 1) := by decide +kernel
theorem dX5_ofPairs_36 : decode cX5_ofPairs 36 = .ok (.iadd, 1) := by decide +kernel
theorem dX5_ofPairs_37 : decode cX5_ofPairs 37 = .ok (.istore 6, 2) := by decide +kernel
theorem dX5_ofPairs_39 : decode cX5_ofPairs 39 = .ok (.iload 6, 2) := by decide +kernel
theorem dX5_ofPairs_41 : decode cX5_ofPairs 41 = .ok (.bipush 16, 2) := by decide +kernel
theorem dX5_ofPairs_43 : decode cX5_ofPairs 43 = .ok (.if_icmp .ge 36, 3) := by decide +kernel
theorem dX5_ofPairs_46 : decode cX5_ofPairs 46 = .ok (.aload_n 0, 1) := by decide +kernel
theorem dX5_ofPairs_47 : decode cX5_ofPairs 47 = .ok (.iload 5, 2) := by decide +kernel
theorem dX5_ofPairs_49 : decode cX5_ofPairs 49 = .ok (.iload 6, 2) := by decide +kernel
theorem dX5_ofPairs_51 : decode cX5_ofPairs 51 = .ok (.invokevirtual 152, 3) := by decide +kernel
theorem dX5_ofPairs_54 : decode cX5_ofPairs 54 = .ok (.istore 7, 2) := by decide +kernel
theorem dX5_ofPairs_56 : decode cX5_ofPairs 56 = .ok (.iload 7, 2) := by decide +kernel
theorem dX5_ofPairs_58 : decode cX5_ofPairs 58 = .ok (.iload 4, 2) := by decide +kernel
theorem dX5_ofPairs_60 : decode cX5_ofPairs 60 = .ok (.if_icmp .le 13, 3) := by decide +kernel
theorem dX5_ofPairs_63 : decode cX5_ofPairs 63 = .ok (.iload 5, 2) := by decide +kernel
theorem dX5_ofPairs_65 : decode cX5_ofPairs 65 = .ok (.istore_n 2, 1) := by decide +kernel
theorem dX5_ofPairs_66 : decode cX5_ofPairs 66 = .ok (.iload 6, 2) := by decide +kernel
theorem dX5_ofPairs_68 : decode cX5_ofPairs 68 = .ok (.istore_n 3, 1) := by decide +kernel
theorem dX5_ofPairs_69 : decode cX5_ofPairs 69 = .ok (.iload 7, 2) := by decide +kernel
theorem dX5_ofPairs_71 : decode cX5_ofPairs 71 = .ok (.istore 4, 2) := by decide +kernel
theorem dX5_ofPairs_73 : decode cX5_ofPairs 73 = .ok (.iinc 6 1, 3) := by decide +kernel
theorem dX5_ofPairs_76 : decode cX5_ofPairs 76 = .ok (.goto (-37), 3) := by decide +kernel
theorem dX5_ofPairs_79 : decode cX5_ofPairs 79 = .ok (.iinc 5 1, 3) := by decide +kernel
theorem dX5_ofPairs_82 : decode cX5_ofPairs 82 = .ok (.goto (-56), 3) := by decide +kernel
theorem dX5_ofPairs_85 : decode cX5_ofPairs 85 = .ok (.iload 4, 2) := by decide +kernel
theorem dX5_ofPairs_87 : decode cX5_ofPairs 87 = .ok (.ifCond .ne 6, 3) := by decide +kernel
theorem dX5_ofPairs_90 : decode cX5_ofPairs 90 = .ok (.ldc 75, 2) := by decide +kernel
theorem dX5_ofPairs_92 : decode cX5_ofPairs 92 = .ok (.ireturn, 1) := by decide +kernel
theorem dX5_ofPairs_93 : decode cX5_ofPairs 93 = .ok (.iload_n 1, 1) := by decide +kernel
theorem dX5_ofPairs_94 : decode cX5_ofPairs 94 = .ok (.lookupswitch 30 #[(0, 26), (1, 28)], 26) := by decide +kernel
theorem dX5_ofPairs_120 : decode cX5_ofPairs 120 = .ok (.iload_n 2, 1) := by decide +kernel
theorem dX5_ofPairs_121 : decode cX5_ofPairs 121 = .ok (.ireturn, 1) := by decide +kernel
theorem dX5_ofPairs_122 : decode cX5_ofPairs 122 = .ok (.iload_n 3, 1) := by decide +kernel
theorem dX5_ofPairs_123 : decode cX5_ofPairs 123 = .ok (.ireturn, 1) := by decide +kernel
theorem dX5_ofPairs_124 : decode cX5_ofPairs 124 = .ok (.iload 4, 2) := by decide +kernel
theorem dX5_ofPairs_126 : decode cX5_ofPairs 126 = .ok (.ireturn, 1) := by decide +kernel
theorem dX5_ofSilence_0 : decode cX5_ofSilence 0 = .ok (.iload_n 1, 1) := by decide +kernel
theorem dX5_ofSilence_1 : decode cX5_ofSilence 1 = .ok (.iconst 0, 1) := by decide +kernel
theorem dX5_ofSilence_2 : decode cX5_ofSilence 2 = .ok (.iconst 1, 1) := by decide +kernel
theorem dX5_ofSilence_3 : decode cX5_ofSilence 3 = .ok (.invokestatic 71, 3) := by decide +kernel
theorem dX5_ofSilence_6 : decode cX5_ofSilence 6 = .ok (.ifCond .ne 6, 3) := by decide +kernel
theorem dX5_ofSilence_9 : decode cX5_ofSilence 9 = .ok (.ldc 42, 2) := by decide +kernel
theorem dX5_ofSilence_11 : decode cX5_ofSilence 11 = .ok (.ireturn, 1) := by decide +kernel
theorem dX5_ofSilence_12 : decode cX5_ofSilence 12 = .ok (.aload_n 0, 1) := by decide +kernel
theorem dX5_ofSilence_13 : decode cX5_ofSilence 13 = .ok (.getfield 25, 3) := by decide +kernel
theorem dX5_ofSilence_16 : decode cX5_ofSilence 16 = .ok (.iconst 1, 1) := by decide +kernel
theorem dX5_ofSilence_17 : decode cX5_ofSilence 17 = .ok (.invokevirtual 155, 3) := by decide +kernel
theorem dX5_ofSilence_20 : decode cX5_ofSilence 20 = .ok (.ifCond .ne 6, 3) := by decide +kernel
theorem dX5_ofSilence_23 : decode cX5_ofSilence 23 = .ok (.ldc 75, 2) := by decide +kernel
theorem dX5_ofSilence_25 : decode cX5_ofSilence 25 = .ok (.ireturn, 1) := by decide +kernel
theorem dX5_ofSilence_26 : decode cX5_ofSilence 26 = .ok (.aload_n 0, 1) := by decide +kernel
theorem dX5_ofSilence_27 : decode cX5_ofSilence 27 = .ok (.getfield 25, 3) := by decide +kernel
theorem dX5_ofSilence_30 : decode cX5_ofSilence 30 = .ok (.iload_n 1, 1) := by decide +kernel
theorem dX5_ofSilence_31 : decode cX5_ofSilence 31 = .ok (.invokevirtual 155, 3) := by decide +kernel
theorem dX5_ofSilence_34 : decode cX5_ofSilence 34 = .ok (.ireturn, 1) := by decide +kernel
theorem dX5_ofDoubt_0 : decode cX5_ofDoubt 0 = .ok (.iload_n 1, 1) := by decide +kernel
theorem dX5_ofDoubt_1 : decode cX5_ofDoubt 1 = .ok (.iconst 0, 1) := by decide +kernel
theorem dX5_ofDoubt_2 : decode cX5_ofDoubt 2 = .ok (.iconst 1, 1) := by decide +kernel
theorem dX5_ofDoubt_3 : decode cX5_ofDoubt 3 = .ok (.invokestatic 71, 3) := by decide +kernel
theorem dX5_ofDoubt_6 : decode cX5_ofDoubt 6 = .ok (.ifCond .ne 6, 3) := by decide +kernel
theorem dX5_ofDoubt_9 : decode cX5_ofDoubt 9 = .ok (.ldc 42, 2) := by decide +kernel
theorem dX5_ofDoubt_11 : decode cX5_ofDoubt 11 = .ok (.ireturn, 1) := by decide +kernel
theorem dX5_ofDoubt_12 : decode cX5_ofDoubt 12 = .ok (.iconst (-1), 1) := by decide +kernel
theorem dX5_ofDoubt_13 : decode cX5_ofDoubt 13 = .ok (.istore_n 2, 1) := by decide +kernel
theorem dX5_ofDoubt_14 : decode cX5_ofDoubt 14 = .ok (.iconst (-1), 1) := by decide +kernel
theorem dX5_ofDoubt_15 : decode cX5_ofDoubt 15 = .ok (.istore_n 3, 1) := by decide +kernel
theorem dX5_ofDoubt_16 : decode cX5_ofDoubt 16 = .ok (.iconst 0, 1) := by decide +kernel
theorem dX5_ofDoubt_17 : decode cX5_ofDoubt 17 = .ok (.istore 4, 2) := by decide +kernel
theorem dX5_ofDoubt_19 : decode cX5_ofDoubt 19 = .ok (.iload 4, 2) := by decide +kernel
theorem dX5_ofDoubt_21 : decode cX5_ofDoubt 21 = .ok (.aload_n 0, 1) := by decide +kernel
theorem dX5_ofDoubt_22 : decode cX5_ofDoubt 22 = .ok (.getfield 25, 3) := by decide +kernel
theorem dX5_ofDoubt_25 : decode cX5_ofDoubt 25 = .ok (.invokevirtual 158, 3) := by decide +kernel
theorem dX5_ofDoubt_28 : decode cX5_ofDoubt 28 = .ok (.if_icmp .ge 62, 3) := by decide +kernel
theorem dX5_ofDoubt_31 : decode cX5_ofDoubt 31 = .ok (.aload_n 0, 1) := by decide +kernel
theorem dX5_ofDoubt_32 : decode cX5_ofDoubt 32 = .ok (.getfield 25, 3) := by decide +kernel
theorem dX5_ofDoubt_35 : decode cX5_ofDoubt 35 = .ok (.iload 4, 2) := by decide +kernel
theorem dX5_ofDoubt_37 : decode cX5_ofDoubt 37 = .ok (.invokevirtual 53, 3) := by decide +kernel
theorem dX5_ofDoubt_40 : decode cX5_ofDoubt 40 = .ok (.istore 5, 2) := by decide +kernel
theorem dX5_ofDoubt_42 : decode cX5_ofDoubt 42 = .ok (.aload_n 0, 1) := by decide +kernel
theorem dX5_ofDoubt_43 : decode cX5_ofDoubt 43 = .ok (.getfield 25, 3) := by decide +kernel
theorem dX5_ofDoubt_46 : decode cX5_ofDoubt 46 = .ok (.iload 4, 2) := by decide +kernel
theorem dX5_ofDoubt_48 : decode cX5_ofDoubt 48 = .ok (.invokevirtual 50, 3) := by decide +kernel
theorem dX5_ofDoubt_51 : decode cX5_ofDoubt 51 = .ok (.aload_n 0, 1) := by decide +kernel
theorem dX5_ofDoubt_52 : decode cX5_ofDoubt 52 = .ok (.getfield 35, 3) := by decide +kernel
theorem dX5_ofDoubt_55 : decode cX5_ofDoubt 55 = .ok (.iload 5, 2) := by decide +kernel
theorem dX5_ofDoubt_57 : decode cX5_ofDoubt 57 = .ok (.invokevirtual 109, 3) := by decide +kernel
theorem dX5_ofDoubt_60 : decode cX5_ofDoubt 60 = .ok (.isub, 1) := by decide +kernel
theorem dX5_ofDoubt_61 : decode cX5_ofDoubt 61 = .ok (.invokestatic 162, 3) := by decide +kernel
theorem dX5_ofDoubt_64 : decode cX5_ofDoubt 64 = .ok (.istore 6, 2) := by decide +kernel
theorem dX5_ofDoubt_66 : decode cX5_ofDoubt 66 = .ok (.iload 5, 2) := by decide +kernel
theorem dX5_ofDoubt_68 : decode cX5_ofDoubt 68 = .ok (.iconst (-1), 1) := by decide +kernel
theorem dX5_ofDoubt_69 : decode cX5_ofDoubt 69 = .ok (.if_icmp .eq 15, 3) := by decide +kernel
theorem dX5_ofDoubt_72 : decode cX5_ofDoubt 72 = .ok (.iload 6, 2) := by decide +kernel
theorem dX5_ofDoubt_74 : decode cX5_ofDoubt 74 = .ok (.iload_n 3, 1) := by decide +kernel
theorem dX5_ofDoubt_75 : decode cX5_ofDoubt 75 = .ok (.if_icmp .le 9, 3) := by decide +kernel
theorem dX5_ofDoubt_78 : decode cX5_ofDoubt 78 = .ok (.iload 4, 2) := by decide +kernel
theorem dX5_ofDoubt_80 : decode cX5_ofDoubt 80 = .ok (.istore_n 2, 1) := by decide +kernel
theorem dX5_ofDoubt_81 : decode cX5_ofDoubt 81 = .ok (.iload 6, 2) := by decide +kernel
theorem dX5_ofDoubt_83 : decode cX5_ofDoubt 83 = .ok (.istore_n 3, 1) := by decide +kernel
theorem dX5_ofDoubt_84 : decode cX5_ofDoubt 84 = .ok (.iinc 4 1, 3) := by decide +kernel
theorem dX5_ofDoubt_87 : decode cX5_ofDoubt 87 = .ok (.goto (-68), 3) := by decide +kernel
theorem dX5_ofDoubt_90 : decode cX5_ofDoubt 90 = .ok (.iload_n 1, 1) := by decide +kernel
theorem dX5_ofDoubt_91 : decode cX5_ofDoubt 91 = .ok (.ifCond .ne 7, 3) := by decide +kernel
theorem dX5_ofDoubt_94 : decode cX5_ofDoubt 94 = .ok (.iload_n 2, 1) := by decide +kernel
theorem dX5_ofDoubt_95 : decode cX5_ofDoubt 95 = .ok (.goto 4, 3) := by decide +kernel
theorem dX5_ofDoubt_98 : decode cX5_ofDoubt 98 = .ok (.iload_n 3, 1) := by decide +kernel
theorem dX5_ofDoubt_99 : decode cX5_ofDoubt 99 = .ok (.invokestatic 56, 3) := by decide +kernel
theorem dX5_ofDoubt_102 : decode cX5_ofDoubt 102 = .ok (.ireturn, 1) := by decide +kernel
theorem dX5_ofAll_0 : decode cX5_ofAll 0 = .ok (.iload_n 1, 1) := by decide +kernel
theorem dX5_ofAll_1 : decode cX5_ofAll 1 = .ok (.tableswitch 183 0 20 #[99, 107, 118, 126, 134, 143, 151, 159, 183, 183, 167, 183, 183, 183, 183, 183, 183, 183, 183, 183, 175], 99) := by decide +kernel
theorem dX5_ofAll_100 : decode cX5_ofAll 100 = .ok (.aload_n 0, 1) := by decide +kernel
theorem dX5_ofAll_101 : decode cX5_ofAll 101 = .ok (.getfield 25, 3) := by decide +kernel
theorem dX5_ofAll_104 : decode cX5_ofAll 104 = .ok (.invokevirtual 158, 3) := by decide +kernel
theorem dX5_ofAll_107 : decode cX5_ofAll 107 = .ok (.ireturn, 1) := by decide +kernel
theorem dX5_ofAll_108 : decode cX5_ofAll 108 = .ok (.aload_n 0, 1) := by decide +kernel
theorem dX5_ofAll_109 : decode cX5_ofAll 109 = .ok (.getfield 35, 3) := by decide +kernel
theorem dX5_ofAll_112 : decode cX5_ofAll 112 = .ok (.invokevirtual 167, 3) := by decide +kernel
theorem dX5_ofAll_115 : decode cX5_ofAll 115 = .ok (.invokestatic 170, 3) := by decide +kernel
theorem dX5_ofAll_118 : decode cX5_ofAll 118 = .ok (.ireturn, 1) := by decide +kernel
theorem dX5_ofAll_119 : decode cX5_ofAll 119 = .ok (.aload_n 0, 1) := by decide +kernel
theorem dX5_ofAll_120 : decode cX5_ofAll 120 = .ok (.getfield 25, 3) := by decide +kernel
theorem dX5_ofAll_123 : decode cX5_ofAll 123 = .ok (.invokevirtual 175, 3) := by decide +kernel
theorem dX5_ofAll_126 : decode cX5_ofAll 126 = .ok (.ireturn, 1) := by decide +kernel
theorem dX5_ofAll_127 : decode cX5_ofAll 127 = .ok (.aload_n 0, 1) := by decide +kernel
theorem dX5_ofAll_128 : decode cX5_ofAll 128 = .ok (.getfield 30, 3) := by decide +kernel
theorem dX5_ofAll_131 : decode cX5_ofAll 131 = .ok (.invokevirtual 178, 3) := by decide +kernel
theorem dX5_ofAll_134 : decode cX5_ofAll 134 = .ok (.ireturn, 1) := by decide +kernel
theorem dX5_ofAll_135 : decode cX5_ofAll 135 = .ok (.aload_n 0, 1) := by decide +kernel
theorem dX5_ofAll_136 : decode cX5_ofAll 136 = .ok (.getfield 25, 3) := by decide +kernel
theorem dX5_ofAll_139 : decode cX5_ofAll 139 = .ok (.iconst (-1), 1) := by decide +kernel
theorem dX5_ofAll_140 : decode cX5_ofAll 140 = .ok (.invokevirtual 110, 3) := by decide +kernel
theorem dX5_ofAll_143 : decode cX5_ofAll 143 = .ok (.ireturn, 1) := by decide +kernel
theorem dX5_ofAll_144 : decode cX5_ofAll 144 = .ok (.aload_n 0, 1) := by decide +kernel
theorem dX5_ofAll_145 : decode cX5_ofAll 145 = .ok (.getfield 25, 3) := by decide +kernel
theorem dX5_ofAll_148 : decode cX5_ofAll 148 = .ok (.invokevirtual 179, 3) := by decide +kernel
theorem dX5_ofAll_151 : decode cX5_ofAll 151 = .ok (.ireturn, 1) := by decide +kernel
theorem dX5_ofAll_152 : decode cX5_ofAll 152 = .ok (.aload_n 0, 1) := by decide +kernel
theorem dX5_ofAll_153 : decode cX5_ofAll 153 = .ok (.getfield 25, 3) := by decide +kernel
theorem dX5_ofAll_156 : decode cX5_ofAll 156 = .ok (.invokevirtual 182, 3) := by decide +kernel
theorem dX5_ofAll_159 : decode cX5_ofAll 159 = .ok (.ireturn, 1) := by decide +kernel
theorem dX5_ofAll_160 : decode cX5_ofAll 160 = .ok (.aload_n 0, 1) := by decide +kernel
theorem dX5_ofAll_161 : decode cX5_ofAll 161 = .ok (.getfield 25, 3) := by decide +kernel
theorem dX5_ofAll_164 : decode cX5_ofAll 164 = .ok (.invokevirtual 185, 3) := by decide +kernel
theorem dX5_ofAll_167 : decode cX5_ofAll 167 = .ok (.ireturn, 1) := by decide +kernel
theorem dX5_ofAll_168 : decode cX5_ofAll 168 = .ok (.aload_n 0, 1) := by decide +kernel
theorem dX5_ofAll_169 : decode cX5_ofAll 169 = .ok (.getfield 35, 3) := by decide +kernel
theorem dX5_ofAll_172 : decode cX5_ofAll 172 = .ok (.invokevirtual 167, 3) := by decide +kernel
theorem dX5_ofAll_175 : decode cX5_ofAll 175 = .ok (.ireturn, 1) := by decide +kernel
theorem dX5_ofAll_176 : decode cX5_ofAll 176 = .ok (.aload_n 0, 1) := by decide +kernel
theorem dX5_ofAll_177 : decode cX5_ofAll 177 = .ok (.getfield 15, 3) := by decide +kernel
theorem dX5_ofAll_180 : decode cX5_ofAll 180 = .ok (.invokevirtual 188, 3) := by decide +kernel
theorem dX5_ofAll_183 : decode cX5_ofAll 183 = .ok (.ireturn, 1) := by decide +kernel
theorem dX5_ofAll_184 : decode cX5_ofAll 184 = .ok (.ldc 42, 2) := by decide +kernel
theorem dX5_ofAll_186 : decode cX5_ofAll 186 = .ok (.ireturn, 1) := by decide +kernel
theorem dX5_orNotFound_0 : decode cX5_orNotFound 0 = .ok (.iload_n 0, 1) := by decide +kernel
theorem dX5_orNotFound_1 : decode cX5_orNotFound 1 = .ok (.iconst (-1), 1) := by decide +kernel
theorem dX5_orNotFound_2 : decode cX5_orNotFound 2 = .ok (.if_icmp .ne 8, 3) := by decide +kernel
theorem dX5_orNotFound_5 : decode cX5_orNotFound 5 = .ok (.ldc 75, 2) := by decide +kernel
theorem dX5_orNotFound_7 : decode cX5_orNotFound 7 = .ok (.goto 4, 3) := by decide +kernel
theorem dX5_orNotFound_10 : decode cX5_orNotFound 10 = .ok (.iload_n 0, 1) := by decide +kernel
theorem dX5_orNotFound_11 : decode cX5_orNotFound 11 = .ok (.ireturn, 1) := by decide +kernel
theorem dX5_shownIn_0 : decode cX5_shownIn 0 = .ok (.iconst 0, 1) := by decide +kernel
theorem dX5_shownIn_1 : decode cX5_shownIn 1 = .ok (.istore_n 2, 1) := by decide +kernel
theorem dX5_shownIn_2 : decode cX5_shownIn 2 = .ok (.iconst 0, 1) := by decide +kernel
theorem dX5_shownIn_3 : decode cX5_shownIn 3 = .ok (.istore_n 3, 1) := by decide +kernel
theorem dX5_shownIn_4 : decode cX5_shownIn 4 = .ok (.iload_n 3, 1) := by decide +kernel
theorem dX5_shownIn_5 : decode cX5_shownIn 5 = .ok (.aload_n 0, 1) := by decide +kernel
theorem dX5_shownIn_6 : decode cX5_shownIn 6 = .ok (.getfield 25, 3) := by decide +kernel
theorem dX5_shownIn_9 : decode cX5_shownIn 9 = .ok (.iload_n 1, 1) := by decide +kernel
theorem dX5_shownIn_10 : decode cX5_shownIn 10 = .ok (.invokevirtual 59, 3) := by decide +kernel
theorem dX5_shownIn_13 : decode cX5_shownIn 13 = .ok (.if_icmp .ge 30, 3) := by decide +kernel
theorem dX5_shownIn_16 : decode cX5_shownIn 16 = .ok (.iload_n 2, 1) := by decide +kernel
theorem dX5_shownIn_17 : decode cX5_shownIn 17 = .ok (.iconst 1, 1) := by decide +kernel
theorem dX5_shownIn_18 : decode cX5_shownIn 18 = .ok (.aload_n 0, 1) := by decide +kernel
theorem dX5_shownIn_19 : decode cX5_shownIn 19 = .ok (.getfield 30, 3) := by decide +kernel
theorem dX5_shownIn_22 : decode cX5_shownIn 22 = .ok (.aload_n 0, 1) := by decide +kernel
theorem dX5_shownIn_23 : decode cX5_shownIn 23 = .ok (.getfield 25, 3) := by decide +kernel
theorem dX5_shownIn_26 : decode cX5_shownIn 26 = .ok (.iload_n 1, 1) := by decide +kernel
theorem dX5_shownIn_27 : decode cX5_shownIn 27 = .ok (.iload_n 3, 1) := by decide +kernel
theorem dX5_shownIn_28 : decode cX5_shownIn 28 = .ok (.invokevirtual 76, 3) := by decide +kernel
theorem dX5_shownIn_31 : decode cX5_shownIn 31 = .ok (.invokevirtual 80, 3) := by decide +kernel
theorem dX5_shownIn_34 : decode cX5_shownIn 34 = .ok (.ishl, 1) := by decide +kernel
theorem dX5_shownIn_35 : decode cX5_shownIn 35 = .ok (.ior, 1) := by decide +kernel
theorem dX5_shownIn_36 : decode cX5_shownIn 36 = .ok (.istore_n 2, 1) := by decide +kernel
theorem dX5_shownIn_37 : decode cX5_shownIn 37 = .ok (.iinc 3 1, 3) := by decide +kernel
theorem dX5_shownIn_40 : decode cX5_shownIn 40 = .ok (.goto (-36), 3) := by decide +kernel
theorem dX5_shownIn_43 : decode cX5_shownIn 43 = .ok (.iload_n 2, 1) := by decide +kernel
theorem dX5_shownIn_44 : decode cX5_shownIn 44 = .ok (.ireturn, 1) := by decide +kernel
theorem dX5_isShownIn_0 : decode cX5_isShownIn 0 = .ok (.aload_n 0, 1) := by decide +kernel
theorem dX5_isShownIn_1 : decode cX5_isShownIn 1 = .ok (.iload_n 1, 1) := by decide +kernel
theorem dX5_isShownIn_2 : decode cX5_isShownIn 2 = .ok (.invokevirtual 191, 3) := by decide +kernel
theorem dX5_isShownIn_5 : decode cX5_isShownIn 5 = .ok (.iload_n 2, 1) := by decide +kernel
theorem dX5_isShownIn_6 : decode cX5_isShownIn 6 = .ok (.ishr, 1) := by decide +kernel
theorem dX5_isShownIn_7 : decode cX5_isShownIn 7 = .ok (.iconst 1, 1) := by decide +kernel
theorem dX5_isShownIn_8 : decode cX5_isShownIn 8 = .ok (.iand, 1) := by decide +kernel
theorem dX5_isShownIn_9 : decode cX5_isShownIn 9 = .ok (.iconst 1, 1) := by decide +kernel
theorem dX5_isShownIn_10 : decode cX5_isShownIn 10 = .ok (.if_icmp .ne 7, 3) := by decide +kernel
theorem dX5_isShownIn_13 : decode cX5_isShownIn 13 = .ok (.iconst 1, 1) := by decide +kernel
theorem dX5_isShownIn_14 : decode cX5_isShownIn 14 = .ok (.goto 4, 3) := by decide +kernel
theorem dX5_isShownIn_17 : decode cX5_isShownIn 17 = .ok (.iconst 0, 1) := by decide +kernel
theorem dX5_isShownIn_18 : decode cX5_isShownIn 18 = .ok (.ireturn, 1) := by decide +kernel
theorem dX5_placesShowing_0 : decode cX5_placesShowing 0 = .ok (.iconst 0, 1) := by decide +kernel
theorem dX5_placesShowing_1 : decode cX5_placesShowing 1 = .ok (.istore_n 2, 1) := by decide +kernel
theorem dX5_placesShowing_2 : decode cX5_placesShowing 2 = .ok (.iconst 0, 1) := by decide +kernel
theorem dX5_placesShowing_3 : decode cX5_placesShowing 3 = .ok (.istore_n 3, 1) := by decide +kernel
theorem dX5_placesShowing_4 : decode cX5_placesShowing 4 = .ok (.iload_n 3, 1) := by decide +kernel
theorem dX5_placesShowing_5 : decode cX5_placesShowing 5 = .ok (.bipush 16, 2) := by decide +kernel
theorem dX5_placesShowing_7 : decode cX5_placesShowing 7 = .ok (.if_icmp .ge 32, 3) := by decide +kernel
theorem dX5_placesShowing_10 : decode cX5_placesShowing 10 = .ok (.aload_n 0, 1) := by decide +kernel
theorem dX5_placesShowing_11 : decode cX5_placesShowing 11 = .ok (.getfield 30, 3) := by decide +kernel
theorem dX5_placesShowing_14 : decode cX5_placesShowing 14 = .ok (.iload_n 3, 1) := by decide +kernel
theorem dX5_placesShowing_15 : decode cX5_placesShowing 15 = .ok (.invokevirtual 80, 3) := by decide +kernel
theorem dX5_placesShowing_18 : decode cX5_placesShowing 18 = .ok (.iload_n 1, 1) := by decide +kernel
theorem dX5_placesShowing_19 : decode cX5_placesShowing 19 = .ok (.if_icmp .ne 14, 3) := by decide +kernel
theorem dX5_placesShowing_22 : decode cX5_placesShowing 22 = .ok (.iload_n 2, 1) := by decide +kernel
theorem dX5_placesShowing_23 : decode cX5_placesShowing 23 = .ok (.aload_n 0, 1) := by decide +kernel
theorem dX5_placesShowing_24 : decode cX5_placesShowing 24 = .ok (.getfield 25, 3) := by decide +kernel
theorem dX5_placesShowing_27 : decode cX5_placesShowing 27 = .ok (.iload_n 3, 1) := by decide +kernel
theorem dX5_placesShowing_28 : decode cX5_placesShowing 28 = .ok (.invokevirtual 194, 3) := by decide +kernel
theorem dX5_placesShowing_31 : decode cX5_placesShowing 31 = .ok (.iadd, 1) := by decide +kernel
theorem dX5_placesShowing_32 : decode cX5_placesShowing 32 = .ok (.istore_n 2, 1) := by decide +kernel
theorem dX5_placesShowing_33 : decode cX5_placesShowing 33 = .ok (.iinc 3 1, 3) := by decide +kernel
theorem dX5_placesShowing_36 : decode cX5_placesShowing 36 = .ok (.goto (-32), 3) := by decide +kernel
theorem dX5_placesShowing_39 : decode cX5_placesShowing 39 = .ok (.iload_n 2, 1) := by decide +kernel
theorem dX5_placesShowing_40 : decode cX5_placesShowing 40 = .ok (.ireturn, 1) := by decide +kernel
theorem dX5_turnsShowing_0 : decode cX5_turnsShowing 0 = .ok (.iconst 0, 1) := by decide +kernel
theorem dX5_turnsShowing_1 : decode cX5_turnsShowing 1 = .ok (.istore_n 2, 1) := by decide +kernel
theorem dX5_turnsShowing_2 : decode cX5_turnsShowing 2 = .ok (.iconst 0, 1) := by decide +kernel
theorem dX5_turnsShowing_3 : decode cX5_turnsShowing 3 = .ok (.istore_n 3, 1) := by decide +kernel
theorem dX5_turnsShowing_4 : decode cX5_turnsShowing 4 = .ok (.iload_n 3, 1) := by decide +kernel
theorem dX5_turnsShowing_5 : decode cX5_turnsShowing 5 = .ok (.aload_n 0, 1) := by decide +kernel
theorem dX5_turnsShowing_6 : decode cX5_turnsShowing 6 = .ok (.getfield 25, 3) := by decide +kernel
theorem dX5_turnsShowing_9 : decode cX5_turnsShowing 9 = .ok (.invokevirtual 158, 3) := by decide +kernel
theorem dX5_turnsShowing_12 : decode cX5_turnsShowing 12 = .ok (.if_icmp .ge 24, 3) := by decide +kernel
theorem dX5_turnsShowing_15 : decode cX5_turnsShowing 15 = .ok (.aload_n 0, 1) := by decide +kernel
theorem dX5_turnsShowing_16 : decode cX5_turnsShowing 16 = .ok (.iload_n 3, 1) := by decide +kernel
theorem dX5_turnsShowing_17 : decode cX5_turnsShowing 17 = .ok (.iload_n 1, 1) := by decide +kernel
theorem dX5_turnsShowing_18 : decode cX5_turnsShowing 18 = .ok (.invokevirtual 197, 3) := by decide +kernel
theorem dX5_turnsShowing_21 : decode cX5_turnsShowing 21 = .ok (.ifCond .eq 9, 3) := by decide +kernel
theorem dX5_turnsShowing_24 : decode cX5_turnsShowing 24 = .ok (.iload_n 2, 1) := by decide +kernel
theorem dX5_turnsShowing_25 : decode cX5_turnsShowing 25 = .ok (.iconst 1, 1) := by decide +kernel
theorem dX5_turnsShowing_26 : decode cX5_turnsShowing 26 = .ok (.iload_n 3, 1) := by decide +kernel
theorem dX5_turnsShowing_27 : decode cX5_turnsShowing 27 = .ok (.ishl, 1) := by decide +kernel
theorem dX5_turnsShowing_28 : decode cX5_turnsShowing 28 = .ok (.ior, 1) := by decide +kernel
theorem dX5_turnsShowing_29 : decode cX5_turnsShowing 29 = .ok (.istore_n 2, 1) := by decide +kernel
theorem dX5_turnsShowing_30 : decode cX5_turnsShowing 30 = .ok (.iinc 3 1, 3) := by decide +kernel
theorem dX5_turnsShowing_33 : decode cX5_turnsShowing 33 = .ok (.goto (-29), 3) := by decide +kernel
theorem dX5_turnsShowing_36 : decode cX5_turnsShowing 36 = .ok (.iload_n 2, 1) := by decide +kernel
theorem dX5_turnsShowing_37 : decode cX5_turnsShowing 37 = .ok (.ireturn, 1) := by decide +kernel
theorem dX5_speakersShowing_0 : decode cX5_speakersShowing 0 = .ok (.iconst 0, 1) := by decide +kernel
theorem dX5_speakersShowing_1 : decode cX5_speakersShowing 1 = .ok (.istore_n 2, 1) := by decide +kernel
theorem dX5_speakersShowing_2 : decode cX5_speakersShowing 2 = .ok (.iconst 0, 1) := by decide +kernel
theorem dX5_speakersShowing_3 : decode cX5_speakersShowing 3 = .ok (.istore_n 3, 1) := by decide +kernel
theorem dX5_speakersShowing_4 : decode cX5_speakersShowing 4 = .ok (.iload_n 3, 1) := by decide +kernel
theorem dX5_speakersShowing_5 : decode cX5_speakersShowing 5 = .ok (.aload_n 0, 1) := by decide +kernel
theorem dX5_speakersShowing_6 : decode cX5_speakersShowing 6 = .ok (.getfield 25, 3) := by decide +kernel
theorem dX5_speakersShowing_9 : decode cX5_speakersShowing 9 = .ok (.invokevirtual 158, 3) := by decide +kernel
theorem dX5_speakersShowing_12 : decode cX5_speakersShowing 12 = .ok (.if_icmp .ge 43, 3) := by decide +kernel
theorem dX5_speakersShowing_15 : decode cX5_speakersShowing 15 = .ok (.aload_n 0, 1) := by decide +kernel
theorem dX5_speakersShowing_16 : decode cX5_speakersShowing 16 = .ok (.getfield 25, 3) := by decide +kernel
theorem dX5_speakersShowing_19 : decode cX5_speakersShowing 19 = .ok (.iload_n 3, 1) := by decide +kernel
theorem dX5_speakersShowing_20 : decode cX5_speakersShowing 20 = .ok (.invokevirtual 53, 3) := by decide +kernel
theorem dX5_speakersShowing_23 : decode cX5_speakersShowing 23 = .ok (.iconst (-1), 1) := by decide +kernel
theorem dX5_speakersShowing_24 : decode cX5_speakersShowing 24 = .ok (.if_icmp .eq 25, 3) := by decide +kernel
theorem dX5_speakersShowing_27 : decode cX5_speakersShowing 27 = .ok (.aload_n 0, 1) := by decide +kernel
theorem dX5_speakersShowing_28 : decode cX5_speakersShowing 28 = .ok (.iload_n 3, 1) := by decide +kernel
theorem dX5_speakersShowing_29 : decode cX5_speakersShowing 29 = .ok (.iload_n 1, 1) := by decide +kernel
theorem dX5_speakersShowing_30 : decode cX5_speakersShowing 30 = .ok (.invokevirtual 197, 3) := by decide +kernel
theorem dX5_speakersShowing_33 : decode cX5_speakersShowing 33 = .ok (.ifCond .eq 16, 3) := by decide +kernel
theorem dX5_speakersShowing_36 : decode cX5_speakersShowing 36 = .ok (.iload_n 2, 1) := by decide +kernel
theorem dX5_speakersShowing_37 : decode cX5_speakersShowing 37 = .ok (.iconst 1, 1) := by decide +kernel
theorem dX5_speakersShowing_38 : decode cX5_speakersShowing 38 = .ok (.aload_n 0, 1) := by decide +kernel
theorem dX5_speakersShowing_39 : decode cX5_speakersShowing 39 = .ok (.getfield 25, 3) := by decide +kernel
theorem dX5_speakersShowing_42 : decode cX5_speakersShowing 42 = .ok (.iload_n 3, 1) := by decide +kernel
theorem dX5_speakersShowing_43 : decode cX5_speakersShowing 43 = .ok (.invokevirtual 53, 3) := by decide +kernel
theorem dX5_speakersShowing_46 : decode cX5_speakersShowing 46 = .ok (.ishl, 1) := by decide +kernel
theorem dX5_speakersShowing_47 : decode cX5_speakersShowing 47 = .ok (.ior, 1) := by decide +kernel
theorem dX5_speakersShowing_48 : decode cX5_speakersShowing 48 = .ok (.istore_n 2, 1) := by decide +kernel
theorem dX5_speakersShowing_49 : decode cX5_speakersShowing 49 = .ok (.iinc 3 1, 3) := by decide +kernel
theorem dX5_speakersShowing_52 : decode cX5_speakersShowing 52 = .ok (.goto (-48), 3) := by decide +kernel
theorem dX5_speakersShowing_55 : decode cX5_speakersShowing 55 = .ok (.iload_n 2, 1) := by decide +kernel
theorem dX5_speakersShowing_56 : decode cX5_speakersShowing 56 = .ok (.ireturn, 1) := by decide +kernel
theorem dX5_termsShownBy_0 : decode cX5_termsShownBy 0 = .ok (.iconst 0, 1) := by decide +kernel
theorem dX5_termsShownBy_1 : decode cX5_termsShownBy 1 = .ok (.istore_n 2, 1) := by decide +kernel
theorem dX5_termsShownBy_2 : decode cX5_termsShownBy 2 = .ok (.iconst 0, 1) := by decide +kernel
theorem dX5_termsShownBy_3 : decode cX5_termsShownBy 3 = .ok (.istore_n 3, 1) := by decide +kernel
theorem dX5_termsShownBy_4 : decode cX5_termsShownBy 4 = .ok (.iload_n 3, 1) := by decide +kernel
theorem dX5_termsShownBy_5 : decode cX5_termsShownBy 5 = .ok (.aload_n 0, 1) := by decide +kernel
theorem dX5_termsShownBy_6 : decode cX5_termsShownBy 6 = .ok (.getfield 25, 3) := by decide +kernel
theorem dX5_termsShownBy_9 : decode cX5_termsShownBy 9 = .ok (.invokevirtual 158, 3) := by decide +kernel
theorem dX5_termsShownBy_12 : decode cX5_termsShownBy 12 = .ok (.if_icmp .ge 29, 3) := by decide +kernel
theorem dX5_termsShownBy_15 : decode cX5_termsShownBy 15 = .ok (.aload_n 0, 1) := by decide +kernel
theorem dX5_termsShownBy_16 : decode cX5_termsShownBy 16 = .ok (.getfield 25, 3) := by decide +kernel
theorem dX5_termsShownBy_19 : decode cX5_termsShownBy 19 = .ok (.iload_n 3, 1) := by decide +kernel
theorem dX5_termsShownBy_20 : decode cX5_termsShownBy 20 = .ok (.invokevirtual 53, 3) := by decide +kernel
theorem dX5_termsShownBy_23 : decode cX5_termsShownBy 23 = .ok (.iload_n 1, 1) := by decide +kernel
theorem dX5_termsShownBy_24 : decode cX5_termsShownBy 24 = .ok (.if_icmp .ne 11, 3) := by decide +kernel
theorem dX5_termsShownBy_27 : decode cX5_termsShownBy 27 = .ok (.iload_n 2, 1) := by decide +kernel
theorem dX5_termsShownBy_28 : decode cX5_termsShownBy 28 = .ok (.aload_n 0, 1) := by decide +kernel
theorem dX5_termsShownBy_29 : decode cX5_termsShownBy 29 = .ok (.iload_n 3, 1) := by decide +kernel
theorem dX5_termsShownBy_30 : decode cX5_termsShownBy 30 = .ok (.invokevirtual 191, 3) := by decide +kernel
theorem dX5_termsShownBy_33 : decode cX5_termsShownBy 33 = .ok (.ior, 1) := by decide +kernel
theorem dX5_termsShownBy_34 : decode cX5_termsShownBy 34 = .ok (.istore_n 2, 1) := by decide +kernel
theorem dX5_termsShownBy_35 : decode cX5_termsShownBy 35 = .ok (.iinc 3 1, 3) := by decide +kernel
theorem dX5_termsShownBy_38 : decode cX5_termsShownBy 38 = .ok (.goto (-34), 3) := by decide +kernel
theorem dX5_termsShownBy_41 : decode cX5_termsShownBy 41 = .ok (.iload_n 2, 1) := by decide +kernel
theorem dX5_termsShownBy_42 : decode cX5_termsShownBy 42 = .ok (.ireturn, 1) := by decide +kernel
theorem dX5_interruptionsBy_0 : decode cX5_interruptionsBy 0 = .ok (.iconst 0, 1) := by decide +kernel
theorem dX5_interruptionsBy_1 : decode cX5_interruptionsBy 1 = .ok (.istore_n 2, 1) := by decide +kernel
theorem dX5_interruptionsBy_2 : decode cX5_interruptionsBy 2 = .ok (.iconst 0, 1) := by decide +kernel
theorem dX5_interruptionsBy_3 : decode cX5_interruptionsBy 3 = .ok (.istore_n 3, 1) := by decide +kernel
theorem dX5_interruptionsBy_4 : decode cX5_interruptionsBy 4 = .ok (.iload_n 3, 1) := by decide +kernel
theorem dX5_interruptionsBy_5 : decode cX5_interruptionsBy 5 = .ok (.bipush 6, 2) := by decide +kernel
theorem dX5_interruptionsBy_7 : decode cX5_interruptionsBy 7 = .ok (.if_icmp .ge 21, 3) := by decide +kernel
theorem dX5_interruptionsBy_10 : decode cX5_interruptionsBy 10 = .ok (.iload_n 2, 1) := by decide +kernel
theorem dX5_interruptionsBy_11 : decode cX5_interruptionsBy 11 = .ok (.aload_n 0, 1) := by decide +kernel
theorem dX5_interruptionsBy_12 : decode cX5_interruptionsBy 12 = .ok (.getfield 25, 3) := by decide +kernel
theorem dX5_interruptionsBy_15 : decode cX5_interruptionsBy 15 = .ok (.iload_n 1, 1) := by decide +kernel
theorem dX5_interruptionsBy_16 : decode cX5_interruptionsBy 16 = .ok (.iload_n 3, 1) := by decide +kernel
theorem dX5_interruptionsBy_17 : decode cX5_interruptionsBy 17 = .ok (.invokevirtual 134, 3) := by decide +kernel
theorem dX5_interruptionsBy_20 : decode cX5_interruptionsBy 20 = .ok (.iadd, 1) := by decide +kernel
theorem dX5_interruptionsBy_21 : decode cX5_interruptionsBy 21 = .ok (.istore_n 2, 1) := by decide +kernel
theorem dX5_interruptionsBy_22 : decode cX5_interruptionsBy 22 = .ok (.iinc 3 1, 3) := by decide +kernel
theorem dX5_interruptionsBy_25 : decode cX5_interruptionsBy 25 = .ok (.goto (-21), 3) := by decide +kernel
theorem dX5_interruptionsBy_28 : decode cX5_interruptionsBy 28 = .ok (.iload_n 2, 1) := by decide +kernel
theorem dX5_interruptionsBy_29 : decode cX5_interruptionsBy 29 = .ok (.ireturn, 1) := by decide +kernel
theorem dX5_interruptionsOf_0 : decode cX5_interruptionsOf 0 = .ok (.iconst 0, 1) := by decide +kernel
theorem dX5_interruptionsOf_1 : decode cX5_interruptionsOf 1 = .ok (.istore_n 2, 1) := by decide +kernel
theorem dX5_interruptionsOf_2 : decode cX5_interruptionsOf 2 = .ok (.iconst 0, 1) := by decide +kernel
theorem dX5_interruptionsOf_3 : decode cX5_interruptionsOf 3 = .ok (.istore_n 3, 1) := by decide +kernel
theorem dX5_interruptionsOf_4 : decode cX5_interruptionsOf 4 = .ok (.iload_n 3, 1) := by decide +kernel
theorem dX5_interruptionsOf_5 : decode cX5_interruptionsOf 5 = .ok (.bipush 6, 2) := by decide +kernel
theorem dX5_interruptionsOf_7 : decode cX5_interruptionsOf 7 = .ok (.if_icmp .ge 21, 3) := by decide +kernel
theorem dX5_interruptionsOf_10 : decode cX5_interruptionsOf 10 = .ok (.iload_n 2, 1) := by decide +kernel
theorem dX5_interruptionsOf_11 : decode cX5_interruptionsOf 11 = .ok (.aload_n 0, 1) := by decide +kernel
theorem dX5_interruptionsOf_12 : decode cX5_interruptionsOf 12 = .ok (.getfield 25, 3) := by decide +kernel
theorem dX5_interruptionsOf_15 : decode cX5_interruptionsOf 15 = .ok (.iload_n 3, 1) := by decide +kernel
theorem dX5_interruptionsOf_16 : decode cX5_interruptionsOf 16 = .ok (.iload_n 1, 1) := by decide +kernel
theorem dX5_interruptionsOf_17 : decode cX5_interruptionsOf 17 = .ok (.invokevirtual 134, 3) := by decide +kernel
theorem dX5_interruptionsOf_20 : decode cX5_interruptionsOf 20 = .ok (.iadd, 1) := by decide +kernel
theorem dX5_interruptionsOf_21 : decode cX5_interruptionsOf 21 = .ok (.istore_n 2, 1) := by decide +kernel
theorem dX5_interruptionsOf_22 : decode cX5_interruptionsOf 22 = .ok (.iinc 3 1, 3) := by decide +kernel
theorem dX5_interruptionsOf_25 : decode cX5_interruptionsOf 25 = .ok (.goto (-21), 3) := by decide +kernel
theorem dX5_interruptionsOf_28 : decode cX5_interruptionsOf 28 = .ok (.iload_n 2, 1) := by decide +kernel
theorem dX5_interruptionsOf_29 : decode cX5_interruptionsOf 29 = .ok (.ireturn, 1) := by decide +kernel
theorem dX5_bitsOfTermsByMinute_0 : decode cX5_bitsOfTermsByMinute 0 = .ok (.aload_n 0, 1) := by decide +kernel
theorem dX5_bitsOfTermsByMinute_1 : decode cX5_bitsOfTermsByMinute 1 = .ok (.getfield 25, 3) := by decide +kernel
theorem dX5_bitsOfTermsByMinute_4 : decode cX5_bitsOfTermsByMinute 4 = .ok (.iload_n 1, 1) := by decide +kernel
theorem dX5_bitsOfTermsByMinute_5 : decode cX5_bitsOfTermsByMinute 5 = .ok (.invokevirtual 113, 3) := by decide +kernel
theorem dX5_bitsOfTermsByMinute_8 : decode cX5_bitsOfTermsByMinute 8 = .ok (.istore_n 2, 1) := by decide +kernel
theorem dX5_bitsOfTermsByMinute_9 : decode cX5_bitsOfTermsByMinute 9 = .ok (.iload_n 2, 1) := by decide +kernel
theorem dX5_bitsOfTermsByMinute_10 : decode cX5_bitsOfTermsByMinute 10 = .ok (.ifCond .gt 6, 3) := by decide +kernel
theorem dX5_bitsOfTermsByMinute_13 : decode cX5_bitsOfTermsByMinute 13 = .ok (.ldc 75, 2) := by decide +kernel
theorem dX5_bitsOfTermsByMinute_15 : decode cX5_bitsOfTermsByMinute 15 = .ok (.ireturn, 1) := by decide +kernel
theorem dX5_bitsOfTermsByMinute_16 : decode cX5_bitsOfTermsByMinute 16 = .ok (.aload_n 0, 1) := by decide +kernel
theorem dX5_bitsOfTermsByMinute_17 : decode cX5_bitsOfTermsByMinute 17 = .ok (.getfield 25, 3) := by decide +kernel
theorem dX5_bitsOfTermsByMinute_20 : decode cX5_bitsOfTermsByMinute 20 = .ok (.iload_n 1, 1) := by decide +kernel
theorem dX5_bitsOfTermsByMinute_21 : decode cX5_bitsOfTermsByMinute 21 = .ok (.invokevirtual 201, 3) := by decide +kernel
theorem dX5_bitsOfTermsByMinute_24 : decode cX5_bitsOfTermsByMinute 24 = .ok (.i2f, 1) := by decide +kernel
theorem dX5_bitsOfTermsByMinute_25 : decode cX5_bitsOfTermsByMinute 25 = .ok (.ldc 204, 2) := by decide +kernel
theorem dX5_bitsOfTermsByMinute_27 : decode cX5_bitsOfTermsByMinute 27 = .ok (.fmul, 1) := by decide +kernel
theorem dX5_bitsOfTermsByMinute_28 : decode cX5_bitsOfTermsByMinute 28 = .ok (.iload_n 2, 1) := by decide +kernel
theorem dX5_bitsOfTermsByMinute_29 : decode cX5_bitsOfTermsByMinute 29 = .ok (.i2f, 1) := by decide +kernel
theorem dX5_bitsOfTermsByMinute_30 : decode cX5_bitsOfTermsByMinute 30 = .ok (.fdiv, 1) := by decide +kernel
theorem dX5_bitsOfTermsByMinute_31 : decode cX5_bitsOfTermsByMinute 31 = .ok (.invokestatic 205, 3) := by decide +kernel
theorem dX5_bitsOfTermsByMinute_34 : decode cX5_bitsOfTermsByMinute 34 = .ok (.ireturn, 1) := by decide +kernel
theorem dX5_bitsOf_0 : decode cX5_bitsOf 0 = .ok (.fload_n 0, 1) := by decide +kernel
theorem dX5_bitsOf_1 : decode cX5_bitsOf 1 = .ok (.fconst 0, 1) := by decide +kernel
theorem dX5_bitsOf_2 : decode cX5_bitsOf 2 = .ok (.fcmp .g, 1) := by decide +kernel
theorem dX5_bitsOf_3 : decode cX5_bitsOf 3 = .ok (.ifCond .gt 5, 3) := by decide +kernel
theorem dX5_bitsOf_6 : decode cX5_bitsOf 6 = .ok (.iconst 0, 1) := by decide +kernel
theorem dX5_bitsOf_7 : decode cX5_bitsOf 7 = .ok (.ireturn, 1) := by decide +kernel
theorem dX5_bitsOf_8 : decode cX5_bitsOf 8 = .ok (.fload_n 0, 1) := by decide +kernel
theorem dX5_bitsOf_9 : decode cX5_bitsOf 9 = .ok (.fstore_n 1, 1) := by decide +kernel
theorem dX5_bitsOf_10 : decode cX5_bitsOf 10 = .ok (.bipush 127, 2) := by decide +kernel
theorem dX5_bitsOf_12 : decode cX5_bitsOf 12 = .ok (.istore_n 2, 1) := by decide +kernel
theorem dX5_bitsOf_13 : decode cX5_bitsOf 13 = .ok (.iload_n 2, 1) := by decide +kernel
theorem dX5_bitsOf_14 : decode cX5_bitsOf 14 = .ok (.sipush 254, 3) := by decide +kernel
theorem dX5_bitsOf_17 : decode cX5_bitsOf 17 = .ok (.if_icmp .ge 19, 3) := by decide +kernel
theorem dX5_bitsOf_20 : decode cX5_bitsOf 20 = .ok (.fload_n 1, 1) := by decide +kernel
theorem dX5_bitsOf_21 : decode cX5_bitsOf 21 = .ok (.fconst 2, 1) := by decide +kernel
theorem dX5_bitsOf_22 : decode cX5_bitsOf 22 = .ok (.fcmp .l, 1) := by decide +kernel
theorem dX5_bitsOf_23 : decode cX5_bitsOf 23 = .ok (.ifCond .lt 13, 3) := by decide +kernel
theorem dX5_bitsOf_26 : decode cX5_bitsOf 26 = .ok (.fload_n 1, 1) := by decide +kernel
theorem dX5_bitsOf_27 : decode cX5_bitsOf 27 = .ok (.fconst 2, 1) := by decide +kernel
theorem dX5_bitsOf_28 : decode cX5_bitsOf 28 = .ok (.fdiv, 1) := by decide +kernel
theorem dX5_bitsOf_29 : decode cX5_bitsOf 29 = .ok (.fstore_n 1, 1) := by decide +kernel
theorem dX5_bitsOf_30 : decode cX5_bitsOf 30 = .ok (.iinc 2 1, 3) := by decide +kernel
theorem dX5_bitsOf_33 : decode cX5_bitsOf 33 = .ok (.goto (-20), 3) := by decide +kernel
theorem dX5_bitsOf_36 : decode cX5_bitsOf 36 = .ok (.iload_n 2, 1) := by decide +kernel
theorem dX5_bitsOf_37 : decode cX5_bitsOf 37 = .ok (.iconst 1, 1) := by decide +kernel
theorem dX5_bitsOf_38 : decode cX5_bitsOf 38 = .ok (.if_icmp .le 19, 3) := by decide +kernel
theorem dX5_bitsOf_41 : decode cX5_bitsOf 41 = .ok (.fload_n 1, 1) := by decide +kernel
theorem dX5_bitsOf_42 : decode cX5_bitsOf 42 = .ok (.fconst 1, 1) := by decide +kernel
theorem dX5_bitsOf_43 : decode cX5_bitsOf 43 = .ok (.fcmp .g, 1) := by decide +kernel
theorem dX5_bitsOf_44 : decode cX5_bitsOf 44 = .ok (.ifCond .ge 13, 3) := by decide +kernel
theorem dX5_bitsOf_47 : decode cX5_bitsOf 47 = .ok (.fload_n 1, 1) := by decide +kernel
theorem dX5_bitsOf_48 : decode cX5_bitsOf 48 = .ok (.fconst 2, 1) := by decide +kernel
theorem dX5_bitsOf_49 : decode cX5_bitsOf 49 = .ok (.fmul, 1) := by decide +kernel
theorem dX5_bitsOf_50 : decode cX5_bitsOf 50 = .ok (.fstore_n 1, 1) := by decide +kernel
theorem dX5_bitsOf_51 : decode cX5_bitsOf 51 = .ok (.iinc 2 (-1), 3) := by decide +kernel
theorem dX5_bitsOf_54 : decode cX5_bitsOf 54 = .ok (.goto (-18), 3) := by decide +kernel
theorem dX5_bitsOf_57 : decode cX5_bitsOf 57 = .ok (.iload_n 2, 1) := by decide +kernel
theorem dX5_bitsOf_58 : decode cX5_bitsOf 58 = .ok (.bipush 23, 2) := by decide +kernel
theorem dX5_bitsOf_60 : decode cX5_bitsOf 60 = .ok (.ishl, 1) := by decide +kernel
theorem dX5_bitsOf_61 : decode cX5_bitsOf 61 = .ok (.fload_n 1, 1) := by decide +kernel
theorem dX5_bitsOf_62 : decode cX5_bitsOf 62 = .ok (.fconst 1, 1) := by decide +kernel
theorem dX5_bitsOf_63 : decode cX5_bitsOf 63 = .ok (.fsub, 1) := by decide +kernel
theorem dX5_bitsOf_64 : decode cX5_bitsOf 64 = .ok (.ldc 209, 2) := by decide +kernel
theorem dX5_bitsOf_66 : decode cX5_bitsOf 66 = .ok (.fmul, 1) := by decide +kernel
theorem dX5_bitsOf_67 : decode cX5_bitsOf 67 = .ok (.f2i, 1) := by decide +kernel
theorem dX5_bitsOf_68 : decode cX5_bitsOf 68 = .ok (.iadd, 1) := by decide +kernel
theorem dX5_bitsOf_69 : decode cX5_bitsOf 69 = .ok (.ireturn, 1) := by decide +kernel
theorem dX5_noteShownSets_0 : decode cX5_noteShownSets 0 = .ok (.iconst 0, 1) := by decide +kernel
theorem dX5_noteShownSets_1 : decode cX5_noteShownSets 1 = .ok (.istore_n 1, 1) := by decide +kernel
theorem dX5_noteShownSets_2 : decode cX5_noteShownSets 2 = .ok (.iload_n 1, 1) := by decide +kernel
theorem dX5_noteShownSets_3 : decode cX5_noteShownSets 3 = .ok (.aload_n 0, 1) := by decide +kernel
theorem dX5_noteShownSets_4 : decode cX5_noteShownSets 4 = .ok (.getfield 25, 3) := by decide +kernel
theorem dX5_noteShownSets_7 : decode cX5_noteShownSets 7 = .ok (.invokevirtual 158, 3) := by decide +kernel
theorem dX5_noteShownSets_10 : decode cX5_noteShownSets 10 = .ok (.if_icmp .ge 26, 3) := by decide +kernel
theorem dX5_noteShownSets_13 : decode cX5_noteShownSets 13 = .ok (.iload_n 1, 1) := by decide +kernel
theorem dX5_noteShownSets_14 : decode cX5_noteShownSets 14 = .ok (.bipush 20, 2) := by decide +kernel
theorem dX5_noteShownSets_16 : decode cX5_noteShownSets 16 = .ok (.if_icmp .ge 20, 3) := by decide +kernel
theorem dX5_noteShownSets_19 : decode cX5_noteShownSets 19 = .ok (.aload_n 0, 1) := by decide +kernel
theorem dX5_noteShownSets_20 : decode cX5_noteShownSets 20 = .ok (.getfield 9, 3) := by decide +kernel
theorem dX5_noteShownSets_23 : decode cX5_noteShownSets 23 = .ok (.iload_n 1, 1) := by decide +kernel
theorem dX5_noteShownSets_24 : decode cX5_noteShownSets 24 = .ok (.aload_n 0, 1) := by decide +kernel
theorem dX5_noteShownSets_25 : decode cX5_noteShownSets 25 = .ok (.iload_n 1, 1) := by decide +kernel
theorem dX5_noteShownSets_26 : decode cX5_noteShownSets 26 = .ok (.invokevirtual 191, 3) := by decide +kernel
theorem dX5_noteShownSets_29 : decode cX5_noteShownSets 29 = .ok (.iastore, 1) := by decide +kernel
theorem dX5_noteShownSets_30 : decode cX5_noteShownSets 30 = .ok (.iinc 1 1, 3) := by decide +kernel
theorem dX5_noteShownSets_33 : decode cX5_noteShownSets 33 = .ok (.goto (-31), 3) := by decide +kernel
theorem dX5_noteShownSets_36 : decode cX5_noteShownSets 36 = .ok (.return_, 1) := by decide +kernel
theorem dX5_turnsWithBoth_0 : decode cX5_turnsWithBoth 0 = .ok (.iconst 1, 1) := by decide +kernel
theorem dX5_turnsWithBoth_1 : decode cX5_turnsWithBoth 1 = .ok (.iload_n 1, 1) := by decide +kernel
theorem dX5_turnsWithBoth_2 : decode cX5_turnsWithBoth 2 = .ok (.ishl, 1) := by decide +kernel
theorem dX5_turnsWithBoth_3 : decode cX5_turnsWithBoth 3 = .ok (.iconst 1, 1) := by decide +kernel
theorem dX5_turnsWithBoth_4 : decode cX5_turnsWithBoth 4 = .ok (.iload_n 2, 1) := by decide +kernel
theorem dX5_turnsWithBoth_5 : decode cX5_turnsWithBoth 5 = .ok (.ishl, 1) := by decide +kernel
theorem dX5_turnsWithBoth_6 : decode cX5_turnsWithBoth 6 = .ok (.ior, 1) := by decide +kernel
theorem dX5_turnsWithBoth_7 : decode cX5_turnsWithBoth 7 = .ok (.istore_n 3, 1) := by decide +kernel
theorem dX5_turnsWithBoth_8 : decode cX5_turnsWithBoth 8 = .ok (.iconst 0, 1) := by decide +kernel
theorem dX5_turnsWithBoth_9 : decode cX5_turnsWithBoth 9 = .ok (.istore 4, 2) := by decide +kernel
theorem dX5_turnsWithBoth_11 : decode cX5_turnsWithBoth 11 = .ok (.iconst 0, 1) := by decide +kernel
theorem dX5_turnsWithBoth_12 : decode cX5_turnsWithBoth 12 = .ok (.istore 5, 2) := by decide +kernel
theorem dX5_turnsWithBoth_14 : decode cX5_turnsWithBoth 14 = .ok (.iload 5, 2) := by decide +kernel
theorem dX5_turnsWithBoth_16 : decode cX5_turnsWithBoth 16 = .ok (.aload_n 0, 1) := by decide +kernel
theorem dX5_turnsWithBoth_17 : decode cX5_turnsWithBoth 17 = .ok (.getfield 25, 3) := by decide +kernel
theorem dX5_turnsWithBoth_20 : decode cX5_turnsWithBoth 20 = .ok (.invokevirtual 158, 3) := by decide +kernel
theorem dX5_turnsWithBoth_23 : decode cX5_turnsWithBoth 23 = .ok (.if_icmp .ge 32, 3) := by decide +kernel
theorem dX5_turnsWithBoth_26 : decode cX5_turnsWithBoth 26 = .ok (.iload 5, 2) := by decide +kernel
theorem dX5_turnsWithBoth_28 : decode cX5_turnsWithBoth 28 = .ok (.bipush 20, 2) := by decide +kernel
theorem dX5_turnsWithBoth_30 : decode cX5_turnsWithBoth 30 = .ok (.if_icmp .ge 25, 3) := by decide +kernel
theorem dX5_turnsWithBoth_33 : decode cX5_turnsWithBoth 33 = .ok (.aload_n 0, 1) := by decide +kernel
theorem dX5_turnsWithBoth_34 : decode cX5_turnsWithBoth 34 = .ok (.getfield 9, 3) := by decide +kernel
theorem dX5_turnsWithBoth_37 : decode cX5_turnsWithBoth 37 = .ok (.iload 5, 2) := by decide +kernel
theorem dX5_turnsWithBoth_39 : decode cX5_turnsWithBoth 39 = .ok (.iaload, 1) := by decide +kernel
theorem dX5_turnsWithBoth_40 : decode cX5_turnsWithBoth 40 = .ok (.iload_n 3, 1) := by decide +kernel
theorem dX5_turnsWithBoth_41 : decode cX5_turnsWithBoth 41 = .ok (.iand, 1) := by decide +kernel
theorem dX5_turnsWithBoth_42 : decode cX5_turnsWithBoth 42 = .ok (.iload_n 3, 1) := by decide +kernel
theorem dX5_turnsWithBoth_43 : decode cX5_turnsWithBoth 43 = .ok (.if_icmp .ne 6, 3) := by decide +kernel
theorem dX5_turnsWithBoth_46 : decode cX5_turnsWithBoth 46 = .ok (.iinc 4 1, 3) := by decide +kernel
theorem dX5_turnsWithBoth_49 : decode cX5_turnsWithBoth 49 = .ok (.iinc 5 1, 3) := by decide +kernel
theorem dX5_turnsWithBoth_52 : decode cX5_turnsWithBoth 52 = .ok (.goto (-38), 3) := by decide +kernel
theorem dX5_turnsWithBoth_55 : decode cX5_turnsWithBoth 55 = .ok (.iload 4, 2) := by decide +kernel
theorem dX5_turnsWithBoth_57 : decode cX5_turnsWithBoth 57 = .ok (.ireturn, 1) := by decide +kernel
theorem dX6_init_0 : decode cX6_init 0 = .ok (.aload_n 0, 1) := by decide +kernel
theorem dX6_init_1 : decode cX6_init 1 = .ok (.invokespecial 3, 3) := by decide +kernel
theorem dX6_init_4 : decode cX6_init 4 = .ok (.aload_n 0, 1) := by decide +kernel
theorem dX6_init_5 : decode cX6_init 5 = .ok (.bipush 60, 2) := by decide +kernel
theorem dX6_init_7 : decode cX6_init 7 = .ok (.newarray .int, 2) := by decide +kernel
theorem dX6_init_9 : decode cX6_init 9 = .ok (.putfield 9, 3) := by decide +kernel
theorem dX6_init_12 : decode cX6_init 12 = .ok (.return_, 1) := by decide +kernel
theorem dX6_length_0 : decode cX6_length 0 = .ok (.aload_n 0, 1) := by decide +kernel
theorem dX6_length_1 : decode cX6_length 1 = .ok (.getfield 15, 3) := by decide +kernel
theorem dX6_length_4 : decode cX6_length 4 = .ok (.ireturn, 1) := by decide +kernel
theorem dX6_isFull_0 : decode cX6_isFull 0 = .ok (.aload_n 0, 1) := by decide +kernel
theorem dX6_isFull_1 : decode cX6_isFull 1 = .ok (.getfield 15, 3) := by decide +kernel
theorem dX6_isFull_4 : decode cX6_isFull 4 = .ok (.bipush 60, 2) := by decide +kernel
theorem dX6_isFull_6 : decode cX6_isFull 6 = .ok (.if_icmp .lt 7, 3) := by decide +kernel
theorem dX6_isFull_9 : decode cX6_isFull 9 = .ok (.iconst 1, 1) := by decide +kernel
theorem dX6_isFull_10 : decode cX6_isFull 10 = .ok (.goto 4, 3) := by decide +kernel
theorem dX6_isFull_13 : decode cX6_isFull 13 = .ok (.iconst 0, 1) := by decide +kernel
theorem dX6_isFull_14 : decode cX6_isFull 14 = .ok (.ireturn, 1) := by decide +kernel
theorem dX6_append_0 : decode cX6_append 0 = .ok (.aload_n 0, 1) := by decide +kernel
theorem dX6_append_1 : decode cX6_append 1 = .ok (.invokevirtual 19, 3) := by decide +kernel
theorem dX6_append_4 : decode cX6_append 4 = .ok (.ifCond .ne 23, 3) := by decide +kernel
theorem dX6_append_7 : decode cX6_append 7 = .ok (.aload_n 0, 1) := by decide +kernel
theorem dX6_append_8 : decode cX6_append 8 = .ok (.getfield 9, 3) := by decide +kernel
theorem dX6_append_11 : decode cX6_append 11 = .ok (.aload_n 0, 1) := by decide +kernel
theorem dX6_append_12 : decode cX6_append 12 = .ok (.getfield 15, 3) := by decide +kernel
theorem dX6_append_15 : decode cX6_append 15 = .ok (.iload_n 1, 1) := by decide +kernel
theorem dX6_append_16 : decode cX6_append 16 = .ok (.iastore, 1) := by decide +kernel
theorem dX6_append_17 : decode cX6_append 17 = .ok (.aload_n 0, 1) := by decide +kernel
theorem dX6_append_18 : decode cX6_append 18 = .ok (.dup, 1) := by decide +kernel
theorem dX6_append_19 : decode cX6_append 19 = .ok (.getfield 15, 3) := by decide +kernel
theorem dX6_append_22 : decode cX6_append 22 = .ok (.iconst 1, 1) := by decide +kernel
theorem dX6_append_23 : decode cX6_append 23 = .ok (.iadd, 1) := by decide +kernel
theorem dX6_append_24 : decode cX6_append 24 = .ok (.putfield 15, 3) := by decide +kernel
theorem dX6_append_27 : decode cX6_append 27 = .ok (.aload_n 0, 1) := by decide +kernel
theorem dX6_append_28 : decode cX6_append 28 = .ok (.getfield 15, 3) := by decide +kernel
theorem dX6_append_31 : decode cX6_append 31 = .ok (.ireturn, 1) := by decide +kernel
theorem dX6_empty_0 : decode cX6_empty 0 = .ok (.aload_n 0, 1) := by decide +kernel
theorem dX6_empty_1 : decode cX6_empty 1 = .ok (.getfield 15, 3) := by decide +kernel
theorem dX6_empty_4 : decode cX6_empty 4 = .ok (.istore_n 1, 1) := by decide +kernel
theorem dX6_empty_5 : decode cX6_empty 5 = .ok (.aload_n 0, 1) := by decide +kernel
theorem dX6_empty_6 : decode cX6_empty 6 = .ok (.iconst 0, 1) := by decide +kernel
theorem dX6_empty_7 : decode cX6_empty 7 = .ok (.putfield 15, 3) := by decide +kernel
theorem dX6_empty_10 : decode cX6_empty 10 = .ok (.iload_n 1, 1) := by decide +kernel
theorem dX6_empty_11 : decode cX6_empty 11 = .ok (.ireturn, 1) := by decide +kernel
theorem dX6_characterAt_0 : decode cX6_characterAt 0 = .ok (.iload_n 1, 1) := by decide +kernel
theorem dX6_characterAt_1 : decode cX6_characterAt 1 = .ok (.iconst 0, 1) := by decide +kernel
theorem dX6_characterAt_2 : decode cX6_characterAt 2 = .ok (.aload_n 0, 1) := by decide +kernel
theorem dX6_characterAt_3 : decode cX6_characterAt 3 = .ok (.getfield 15, 3) := by decide +kernel
theorem dX6_characterAt_6 : decode cX6_characterAt 6 = .ok (.iconst 1, 1) := by decide +kernel
theorem dX6_characterAt_7 : decode cX6_characterAt 7 = .ok (.isub, 1) := by decide +kernel
theorem dX6_characterAt_8 : decode cX6_characterAt 8 = .ok (.invokestatic 23, 3) := by decide +kernel
theorem dX6_characterAt_11 : decode cX6_characterAt 11 = .ok (.ifCond .eq 12, 3) := by decide +kernel
theorem dX6_characterAt_14 : decode cX6_characterAt 14 = .ok (.aload_n 0, 1) := by decide +kernel
theorem dX6_characterAt_15 : decode cX6_characterAt 15 = .ok (.getfield 9, 3) := by decide +kernel
theorem dX6_characterAt_18 : decode cX6_characterAt 18 = .ok (.iload_n 1, 1) := by decide +kernel
theorem dX6_characterAt_19 : decode cX6_characterAt 19 = .ok (.iaload, 1) := by decide +kernel
theorem dX6_characterAt_20 : decode cX6_characterAt 20 = .ok (.goto 4, 3) := by decide +kernel
theorem dX6_characterAt_23 : decode cX6_characterAt 23 = .ok (.iconst (-1), 1) := by decide +kernel
theorem dX6_characterAt_24 : decode cX6_characterAt 24 = .ok (.ireturn, 1) := by decide +kernel
theorem dX7_init_0 : decode cX7_init 0 = .ok (.aload_n 0, 1) := by decide +kernel
theorem dX7_init_1 : decode cX7_init 1 = .ok (.invokespecial 3, 3) := by decide +kernel
theorem dX7_init_4 : decode cX7_init 4 = .ok (.aload_n 0, 1) := by decide +kernel
theorem dX7_init_5 : decode cX7_init 5 = .ok (.new 9, 3) := by decide +kernel
theorem dX7_init_8 : decode cX7_init 8 = .ok (.dup, 1) := by decide +kernel
theorem dX7_init_9 : decode cX7_init 9 = .ok (.invokespecial 11, 3) := by decide +kernel
theorem dX7_init_12 : decode cX7_init 12 = .ok (.putfield 12, 3) := by decide +kernel
theorem dX7_init_15 : decode cX7_init 15 = .ok (.aload_n 0, 1) := by decide +kernel
theorem dX7_init_16 : decode cX7_init 16 = .ok (.new 18, 3) := by decide +kernel
theorem dX7_init_19 : decode cX7_init 19 = .ok (.dup, 1) := by decide +kernel
theorem dX7_init_20 : decode cX7_init 20 = .ok (.invokespecial 20, 3) := by decide +kernel
theorem dX7_init_23 : decode cX7_init 23 = .ok (.putfield 21, 3) := by decide +kernel
theorem dX7_init_26 : decode cX7_init 26 = .ok (.aload_n 0, 1) := by decide +kernel
theorem dX7_init_27 : decode cX7_init 27 = .ok (.new 25, 3) := by decide +kernel
theorem dX7_init_30 : decode cX7_init 30 = .ok (.dup, 1) := by decide +kernel
theorem dX7_init_31 : decode cX7_init 31 = .ok (.invokespecial 27, 3) := by decide +kernel
theorem dX7_init_34 : decode cX7_init 34 = .ok (.putfield 28, 3) := by decide +kernel
theorem dX7_init_37 : decode cX7_init 37 = .ok (.aload_n 0, 1) := by decide +kernel
theorem dX7_init_38 : decode cX7_init 38 = .ok (.bipush 30, 2) := by decide +kernel
theorem dX7_init_40 : decode cX7_init 40 = .ok (.putfield 32, 3) := by decide +kernel
theorem dX7_init_43 : decode cX7_init 43 = .ok (.return_, 1) := by decide +kernel
theorem dX7_takeFrom_0 : decode cX7_takeFrom 0 = .ok (.aload_n 0, 1) := by decide +kernel
theorem dX7_takeFrom_1 : decode cX7_takeFrom 1 = .ok (.getfield 12, 3) := by decide +kernel
theorem dX7_takeFrom_4 : decode cX7_takeFrom 4 = .ok (.aload_n 1, 1) := by decide +kernel
theorem dX7_takeFrom_5 : decode cX7_takeFrom 5 = .ok (.getfield 12, 3) := by decide +kernel
theorem dX7_takeFrom_8 : decode cX7_takeFrom 8 = .ok (.invokevirtual 36, 3) := by decide +kernel
theorem dX7_takeFrom_11 : decode cX7_takeFrom 11 = .ok (.aload_n 0, 1) := by decide +kernel
theorem dX7_takeFrom_12 : decode cX7_takeFrom 12 = .ok (.getfield 21, 3) := by decide +kernel
theorem dX7_takeFrom_15 : decode cX7_takeFrom 15 = .ok (.aload_n 1, 1) := by decide +kernel
theorem dX7_takeFrom_16 : decode cX7_takeFrom 16 = .ok (.getfield 21, 3) := by decide +kernel
theorem dX7_takeFrom_19 : decode cX7_takeFrom 19 = .ok (.invokevirtual 40, 3) := by decide +kernel
theorem dX7_takeFrom_22 : decode cX7_takeFrom 22 = .ok (.aload_n 0, 1) := by decide +kernel
theorem dX7_takeFrom_23 : decode cX7_takeFrom 23 = .ok (.getfield 28, 3) := by decide +kernel
theorem dX7_takeFrom_26 : decode cX7_takeFrom 26 = .ok (.aload_n 1, 1) := by decide +kernel
theorem dX7_takeFrom_27 : decode cX7_takeFrom 27 = .ok (.getfield 28, 3) := by decide +kernel
theorem dX7_takeFrom_30 : decode cX7_takeFrom 30 = .ok (.invokevirtual 43, 3) := by decide +kernel
theorem dX7_takeFrom_33 : decode cX7_takeFrom 33 = .ok (.aload_n 0, 1) := by decide +kernel
theorem dX7_takeFrom_34 : decode cX7_takeFrom 34 = .ok (.aload_n 1, 1) := by decide +kernel
theorem dX7_takeFrom_35 : decode cX7_takeFrom 35 = .ok (.getfield 32, 3) := by decide +kernel
theorem dX7_takeFrom_38 : decode cX7_takeFrom 38 = .ok (.putfield 32, 3) := by decide +kernel
theorem dX7_takeFrom_41 : decode cX7_takeFrom 41 = .ok (.return_, 1) := by decide +kernel
theorem dX7_addTurn_0 : decode cX7_addTurn 0 = .ok (.iload_n 1, 1) := by decide +kernel
theorem dX7_addTurn_1 : decode cX7_addTurn 1 = .ok (.ifCond .lt 22, 3) := by decide +kernel
theorem dX7_addTurn_4 : decode cX7_addTurn 4 = .ok (.iload_n 2, 1) := by decide +kernel
theorem dX7_addTurn_5 : decode cX7_addTurn 5 = .ok (.iload_n 1, 1) := by decide +kernel
theorem dX7_addTurn_6 : decode cX7_addTurn 6 = .ok (.if_icmp .le 17, 3) := by decide +kernel
theorem dX7_addTurn_9 : decode cX7_addTurn 9 = .ok (.iload_n 2, 1) := by decide +kernel
theorem dX7_addTurn_10 : decode cX7_addTurn 10 = .ok (.sipush 1999, 3) := by decide +kernel
theorem dX7_addTurn_13 : decode cX7_addTurn 13 = .ok (.if_icmp .gt 10, 3) := by decide +kernel
theorem dX7_addTurn_16 : decode cX7_addTurn 16 = .ok (.iload_n 3, 1) := by decide +kernel
theorem dX7_addTurn_17 : decode cX7_addTurn 17 = .ok (.invokestatic 46, 3) := by decide +kernel
theorem dX7_addTurn_20 : decode cX7_addTurn 20 = .ok (.ifCond .ne 6, 3) := by decide +kernel
theorem dX7_addTurn_23 : decode cX7_addTurn 23 = .ok (.ldc 50, 2) := by decide +kernel
theorem dX7_addTurn_25 : decode cX7_addTurn 25 = .ok (.ireturn, 1) := by decide +kernel
theorem dX7_addTurn_26 : decode cX7_addTurn 26 = .ok (.aload_n 0, 1) := by decide +kernel
theorem dX7_addTurn_27 : decode cX7_addTurn 27 = .ok (.getfield 12, 3) := by decide +kernel
theorem dX7_addTurn_30 : decode cX7_addTurn 30 = .ok (.invokevirtual 51, 3) := by decide +kernel
theorem dX7_addTurn_33 : decode cX7_addTurn 33 = .ok (.ifCond .eq 6, 3) := by decide +kernel
theorem dX7_addTurn_36 : decode cX7_addTurn 36 = .ok (.ldc 55, 2) := by decide +kernel
theorem dX7_addTurn_38 : decode cX7_addTurn 38 = .ok (.ireturn, 1) := by decide +kernel
theorem dX7_addTurn_39 : decode cX7_addTurn 39 = .ok (.aload_n 0, 1) := by decide +kernel
theorem dX7_addTurn_40 : decode cX7_addTurn 40 = .ok (.getfield 12, 3) := by decide +kernel
theorem dX7_addTurn_43 : decode cX7_addTurn 43 = .ok (.iload_n 1, 1) := by decide +kernel
theorem dX7_addTurn_44 : decode cX7_addTurn 44 = .ok (.iload_n 2, 1) := by decide +kernel
theorem dX7_addTurn_45 : decode cX7_addTurn 45 = .ok (.iload_n 3, 1) := by decide +kernel
theorem dX7_addTurn_46 : decode cX7_addTurn 46 = .ok (.aload_n 0, 1) := by decide +kernel
theorem dX7_addTurn_47 : decode cX7_addTurn 47 = .ok (.iload_n 3, 1) := by decide +kernel
theorem dX7_addTurn_48 : decode cX7_addTurn 48 = .ok (.invokevirtual 56, 3) := by decide +kernel
theorem dX7_addTurn_51 : decode cX7_addTurn 51 = .ok (.invokevirtual 60, 3) := by decide +kernel
theorem dX7_addTurn_54 : decode cX7_addTurn 54 = .ok (.ireturn, 1) := by decide +kernel
theorem dX7_addTerm_0 : decode cX7_addTerm 0 = .ok (.aload_n 0, 1) := by decide +kernel
theorem dX7_addTerm_1 : decode cX7_addTerm 1 = .ok (.getfield 12, 3) := by decide +kernel
theorem dX7_addTerm_4 : decode cX7_addTerm 4 = .ok (.iload_n 1, 1) := by decide +kernel
theorem dX7_addTerm_5 : decode cX7_addTerm 5 = .ok (.invokevirtual 64, 3) := by decide +kernel
theorem dX7_addTerm_8 : decode cX7_addTerm 8 = .ok (.ifCond .eq 10, 3) := by decide +kernel
theorem dX7_addTerm_11 : decode cX7_addTerm 11 = .ok (.iload_n 2, 1) := by decide +kernel
theorem dX7_addTerm_12 : decode cX7_addTerm 12 = .ok (.invokestatic 67, 3) := by decide +kernel
theorem dX7_addTerm_15 : decode cX7_addTerm 15 = .ok (.ifCond .ne 6, 3) := by decide +kernel
theorem dX7_addTerm_18 : decode cX7_addTerm 18 = .ok (.ldc 50, 2) := by decide +kernel
theorem dX7_addTerm_20 : decode cX7_addTerm 20 = .ok (.ireturn, 1) := by decide +kernel
theorem dX7_addTerm_21 : decode cX7_addTerm 21 = .ok (.aload_n 0, 1) := by decide +kernel
theorem dX7_addTerm_22 : decode cX7_addTerm 22 = .ok (.getfield 12, 3) := by decide +kernel
theorem dX7_addTerm_25 : decode cX7_addTerm 25 = .ok (.iload_n 1, 1) := by decide +kernel
theorem dX7_addTerm_26 : decode cX7_addTerm 26 = .ok (.invokevirtual 70, 3) := by decide +kernel
theorem dX7_addTerm_29 : decode cX7_addTerm 29 = .ok (.ifCond .eq 6, 3) := by decide +kernel
theorem dX7_addTerm_32 : decode cX7_addTerm 32 = .ok (.ldc 55, 2) := by decide +kernel
theorem dX7_addTerm_34 : decode cX7_addTerm 34 = .ok (.ireturn, 1) := by decide +kernel
theorem dX7_addTerm_35 : decode cX7_addTerm 35 = .ok (.aload_n 0, 1) := by decide +kernel
theorem dX7_addTerm_36 : decode cX7_addTerm 36 = .ok (.getfield 12, 3) := by decide +kernel
theorem dX7_addTerm_39 : decode cX7_addTerm 39 = .ok (.iload_n 1, 1) := by decide +kernel
theorem dX7_addTerm_40 : decode cX7_addTerm 40 = .ok (.iload_n 2, 1) := by decide +kernel
theorem dX7_addTerm_41 : decode cX7_addTerm 41 = .ok (.invokevirtual 73, 3) := by decide +kernel
theorem dX7_addTerm_44 : decode cX7_addTerm 44 = .ok (.aload_n 0, 1) := by decide +kernel
theorem dX7_addTerm_45 : decode cX7_addTerm 45 = .ok (.getfield 12, 3) := by decide +kernel
theorem dX7_addTerm_48 : decode cX7_addTerm 48 = .ok (.iload_n 1, 1) := by decide +kernel
theorem dX7_addTerm_49 : decode cX7_addTerm 49 = .ok (.invokevirtual 77, 3) := by decide +kernel
theorem dX7_addTerm_52 : decode cX7_addTerm 52 = .ok (.ireturn, 1) := by decide +kernel
theorem dX7_partTurn_0 : decode cX7_partTurn 0 = .ok (.aload_n 0, 1) := by decide +kernel
theorem dX7_partTurn_1 : decode cX7_partTurn 1 = .ok (.getfield 12, 3) := by decide +kernel
theorem dX7_partTurn_4 : decode cX7_partTurn 4 = .ok (.iload_n 1, 1) := by decide +kernel
theorem dX7_partTurn_5 : decode cX7_partTurn 5 = .ok (.invokevirtual 64, 3) := by decide +kernel
theorem dX7_partTurn_8 : decode cX7_partTurn 8 = .ok (.ifCond .eq 43, 3) := by decide +kernel
theorem dX7_partTurn_11 : decode cX7_partTurn 11 = .ok (.iload_n 2, 1) := by decide +kernel
theorem dX7_partTurn_12 : decode cX7_partTurn 12 = .ok (.aload_n 0, 1) := by decide +kernel
theorem dX7_partTurn_13 : decode cX7_partTurn 13 = .ok (.getfield 12, 3) := by decide +kernel
theorem dX7_partTurn_16 : decode cX7_partTurn 16 = .ok (.iload_n 1, 1) := by decide +kernel
theorem dX7_partTurn_17 : decode cX7_partTurn 17 = .ok (.invokevirtual 80, 3) := by decide +kernel
theorem dX7_partTurn_20 : decode cX7_partTurn 20 = .ok (.if_icmp .le 31, 3) := by decide +kernel
theorem dX7_partTurn_23 : decode cX7_partTurn 23 = .ok (.iload_n 2, 1) := by decide +kernel
theorem dX7_partTurn_24 : decode cX7_partTurn 24 = .ok (.aload_n 0, 1) := by decide +kernel
theorem dX7_partTurn_25 : decode cX7_partTurn 25 = .ok (.getfield 12, 3) := by decide +kernel
theorem dX7_partTurn_28 : decode cX7_partTurn 28 = .ok (.iload_n 1, 1) := by decide +kernel
theorem dX7_partTurn_29 : decode cX7_partTurn 29 = .ok (.invokevirtual 83, 3) := by decide +kernel
theorem dX7_partTurn_32 : decode cX7_partTurn 32 = .ok (.if_icmp .ge 19, 3) := by decide +kernel
theorem dX7_partTurn_35 : decode cX7_partTurn 35 = .ok (.iload_n 3, 1) := by decide +kernel
theorem dX7_partTurn_36 : decode cX7_partTurn 36 = .ok (.iconst 0, 1) := by decide +kernel
theorem dX7_partTurn_37 : decode cX7_partTurn 37 = .ok (.aload_n 0, 1) := by decide +kernel
theorem dX7_partTurn_38 : decode cX7_partTurn 38 = .ok (.getfield 12, 3) := by decide +kernel
theorem dX7_partTurn_41 : decode cX7_partTurn 41 = .ok (.iload_n 1, 1) := by decide +kernel
theorem dX7_partTurn_42 : decode cX7_partTurn 42 = .ok (.invokevirtual 77, 3) := by decide +kernel
theorem dX7_partTurn_45 : decode cX7_partTurn 45 = .ok (.invokestatic 86, 3) := by decide +kernel
theorem dX7_partTurn_48 : decode cX7_partTurn 48 = .ok (.ifCond .ne 6, 3) := by decide +kernel
theorem dX7_partTurn_51 : decode cX7_partTurn 51 = .ok (.ldc 50, 2) := by decide +kernel
theorem dX7_partTurn_53 : decode cX7_partTurn 53 = .ok (.ireturn, 1) := by decide +kernel
theorem dX7_partTurn_54 : decode cX7_partTurn 54 = .ok (.aload_n 0, 1) := by decide +kernel
theorem dX7_partTurn_55 : decode cX7_partTurn 55 = .ok (.getfield 12, 3) := by decide +kernel
theorem dX7_partTurn_58 : decode cX7_partTurn 58 = .ok (.invokevirtual 51, 3) := by decide +kernel
theorem dX7_partTurn_61 : decode cX7_partTurn 61 = .ok (.ifCond .eq 6, 3) := by decide +kernel
theorem dX7_partTurn_64 : decode cX7_partTurn 64 = .ok (.ldc 55, 2) := by decide +kernel
theorem dX7_partTurn_66 : decode cX7_partTurn 66 = .ok (.ireturn, 1) := by decide +kernel
theorem dX7_partTurn_67 : decode cX7_partTurn 67 = .ok (.aload_n 0, 1) := by decide +kernel
theorem dX7_partTurn_68 : decode cX7_partTurn 68 = .ok (.getfield 12, 3) := by decide +kernel
theorem dX7_partTurn_71 : decode cX7_partTurn 71 = .ok (.iload_n 2, 1) := by decide +kernel
theorem dX7_partTurn_72 : decode cX7_partTurn 72 = .ok (.aload_n 0, 1) := by decide +kernel
theorem dX7_partTurn_73 : decode cX7_partTurn 73 = .ok (.getfield 12, 3) := by decide +kernel
theorem dX7_partTurn_76 : decode cX7_partTurn 76 = .ok (.iload_n 1, 1) := by decide +kernel
theorem dX7_partTurn_77 : decode cX7_partTurn 77 = .ok (.invokevirtual 83, 3) := by decide +kernel
theorem dX7_partTurn_80 : decode cX7_partTurn 80 = .ok (.aload_n 0, 1) := by decide +kernel
theorem dX7_partTurn_81 : decode cX7_partTurn 81 = .ok (.getfield 12, 3) := by decide +kernel
theorem dX7_partTurn_84 : decode cX7_partTurn 84 = .ok (.iload_n 1, 1) := by decide +kernel
theorem dX7_partTurn_85 : decode cX7_partTurn 85 = .ok (.invokevirtual 90, 3) := by decide +kernel
theorem dX7_partTurn_88 : decode cX7_partTurn 88 = .ok (.aload_n 0, 1) := by decide +kernel
theorem dX7_partTurn_89 : decode cX7_partTurn 89 = .ok (.getfield 12, 3) := by decide +kernel
theorem dX7_partTurn_92 : decode cX7_partTurn 92 = .ok (.iload_n 1, 1) := by decide +kernel
theorem dX7_partTurn_93 : decode cX7_partTurn 93 = .ok (.invokevirtual 93, 3) := by decide +kernel
theorem dX7_partTurn_96 : decode cX7_partTurn 96 = .ok (.invokevirtual 60, 3) := by decide +kernel
theorem dX7_partTurn_99 : decode cX7_partTurn 99 = .ok (.istore 4, 2) := by decide +kernel
theorem dX7_partTurn_101 : decode cX7_partTurn 101 = .ok (.aload_n 0, 1) := by decide +kernel
theorem dX7_partTurn_102 : decode cX7_partTurn 102 = .ok (.getfield 12, 3) := by decide +kernel
end
section
theorem dX7_partTurn_105 : decode cX7_partTurn 105 = .ok (.iload_n 1, 1) := by decide +kernel
theorem dX7_partTurn_106 : decode cX7_partTurn 106 = .ok (.iload_n 3, 1) := by decide +kernel
theorem dX7_partTurn_107 : decode cX7_partTurn 107 = .ok (.iload 4, 2) := by decide +kernel
theorem dX7_partTurn_109 : decode cX7_partTurn 109 = .ok (.invokevirtual 96, 3) := by decide +kernel
theorem dX7_partTurn_112 : decode cX7_partTurn 112 = .ok (.aload_n 0, 1) := by decide +kernel
theorem dX7_partTurn_113 : decode cX7_partTurn 113 = .ok (.getfield 12, 3) := by decide +kernel
theorem dX7_partTurn_116 : decode cX7_partTurn 116 = .ok (.iload_n 1, 1) := by decide +kernel
theorem dX7_partTurn_117 : decode cX7_partTurn 117 = .ok (.iload_n 2, 1) := by decide +kernel
theorem dX7_partTurn_118 : decode cX7_partTurn 118 = .ok (.invokevirtual 100, 3) := by decide +kernel
theorem dX7_partTurn_121 : decode cX7_partTurn 121 = .ok (.iload 4, 2) := by decide +kernel
theorem dX7_partTurn_123 : decode cX7_partTurn 123 = .ok (.ireturn, 1) := by decide +kernel
theorem dX7_dropTurn_0 : decode cX7_dropTurn 0 = .ok (.aload_n 0, 1) := by decide +kernel
theorem dX7_dropTurn_1 : decode cX7_dropTurn 1 = .ok (.getfield 12, 3) := by decide +kernel
theorem dX7_dropTurn_4 : decode cX7_dropTurn 4 = .ok (.iload_n 1, 1) := by decide +kernel
theorem dX7_dropTurn_5 : decode cX7_dropTurn 5 = .ok (.invokevirtual 64, 3) := by decide +kernel
theorem dX7_dropTurn_8 : decode cX7_dropTurn 8 = .ok (.ifCond .ne 6, 3) := by decide +kernel
theorem dX7_dropTurn_11 : decode cX7_dropTurn 11 = .ok (.ldc 50, 2) := by decide +kernel
theorem dX7_dropTurn_13 : decode cX7_dropTurn 13 = .ok (.ireturn, 1) := by decide +kernel
theorem dX7_dropTurn_14 : decode cX7_dropTurn 14 = .ok (.aload_n 0, 1) := by decide +kernel
theorem dX7_dropTurn_15 : decode cX7_dropTurn 15 = .ok (.getfield 12, 3) := by decide +kernel
theorem dX7_dropTurn_18 : decode cX7_dropTurn 18 = .ok (.iload_n 1, 1) := by decide +kernel
theorem dX7_dropTurn_19 : decode cX7_dropTurn 19 = .ok (.invokevirtual 103, 3) := by decide +kernel
theorem dX7_dropTurn_22 : decode cX7_dropTurn 22 = .ok (.aload_n 0, 1) := by decide +kernel
theorem dX7_dropTurn_23 : decode cX7_dropTurn 23 = .ok (.getfield 12, 3) := by decide +kernel
theorem dX7_dropTurn_26 : decode cX7_dropTurn 26 = .ok (.invokevirtual 107, 3) := by decide +kernel
theorem dX7_dropTurn_29 : decode cX7_dropTurn 29 = .ok (.ireturn, 1) := by decide +kernel
theorem dX7_addCorrection_0 : decode cX7_addCorrection 0 = .ok (.aload_n 0, 1) := by decide +kernel
theorem dX7_addCorrection_1 : decode cX7_addCorrection 1 = .ok (.getfield 21, 3) := by decide +kernel
theorem dX7_addCorrection_4 : decode cX7_addCorrection 4 = .ok (.iload_n 1, 1) := by decide +kernel
theorem dX7_addCorrection_5 : decode cX7_addCorrection 5 = .ok (.iload_n 2, 1) := by decide +kernel
theorem dX7_addCorrection_6 : decode cX7_addCorrection 6 = .ok (.invokevirtual 111, 3) := by decide +kernel
theorem dX7_addCorrection_9 : decode cX7_addCorrection 9 = .ok (.istore_n 3, 1) := by decide +kernel
theorem dX7_addCorrection_10 : decode cX7_addCorrection 10 = .ok (.iload_n 3, 1) := by decide +kernel
theorem dX7_addCorrection_11 : decode cX7_addCorrection 11 = .ok (.ifCond .eq 5, 3) := by decide +kernel
theorem dX7_addCorrection_14 : decode cX7_addCorrection 14 = .ok (.iload_n 3, 1) := by decide +kernel
theorem dX7_addCorrection_15 : decode cX7_addCorrection 15 = .ok (.ireturn, 1) := by decide +kernel
theorem dX7_addCorrection_16 : decode cX7_addCorrection 16 = .ok (.aload_n 0, 1) := by decide +kernel
theorem dX7_addCorrection_17 : decode cX7_addCorrection 17 = .ok (.iload_n 1, 1) := by decide +kernel
theorem dX7_addCorrection_18 : decode cX7_addCorrection 18 = .ok (.aload_n 0, 1) := by decide +kernel
theorem dX7_addCorrection_19 : decode cX7_addCorrection 19 = .ok (.getfield 21, 3) := by decide +kernel
theorem dX7_addCorrection_22 : decode cX7_addCorrection 22 = .ok (.iload_n 2, 1) := by decide +kernel
theorem dX7_addCorrection_23 : decode cX7_addCorrection 23 = .ok (.invokevirtual 115, 3) := by decide +kernel
theorem dX7_addCorrection_26 : decode cX7_addCorrection 26 = .ok (.invokevirtual 118, 3) := by decide +kernel
theorem dX7_addCorrection_29 : decode cX7_addCorrection 29 = .ok (.istore 4, 2) := by decide +kernel
theorem dX7_addCorrection_31 : decode cX7_addCorrection 31 = .ok (.aload_n 0, 1) := by decide +kernel
theorem dX7_addCorrection_32 : decode cX7_addCorrection 32 = .ok (.getfield 21, 3) := by decide +kernel
theorem dX7_addCorrection_35 : decode cX7_addCorrection 35 = .ok (.iload_n 1, 1) := by decide +kernel
theorem dX7_addCorrection_36 : decode cX7_addCorrection 36 = .ok (.iload_n 2, 1) := by decide +kernel
theorem dX7_addCorrection_37 : decode cX7_addCorrection 37 = .ok (.invokevirtual 121, 3) := by decide +kernel
theorem dX7_addCorrection_40 : decode cX7_addCorrection 40 = .ok (.iload 4, 2) := by decide +kernel
theorem dX7_addCorrection_42 : decode cX7_addCorrection 42 = .ok (.ireturn, 1) := by decide +kernel
theorem dX7_dropCorrection_0 : decode cX7_dropCorrection 0 = .ok (.iload_n 1, 1) := by decide +kernel
theorem dX7_dropCorrection_1 : decode cX7_dropCorrection 1 = .ok (.invokestatic 67, 3) := by decide +kernel
theorem dX7_dropCorrection_4 : decode cX7_dropCorrection 4 = .ok (.ifCond .ne 6, 3) := by decide +kernel
theorem dX7_dropCorrection_7 : decode cX7_dropCorrection 7 = .ok (.ldc 50, 2) := by decide +kernel
theorem dX7_dropCorrection_9 : decode cX7_dropCorrection 9 = .ok (.ireturn, 1) := by decide +kernel
theorem dX7_dropCorrection_10 : decode cX7_dropCorrection 10 = .ok (.aload_n 0, 1) := by decide +kernel
theorem dX7_dropCorrection_11 : decode cX7_dropCorrection 11 = .ok (.getfield 21, 3) := by decide +kernel
theorem dX7_dropCorrection_14 : decode cX7_dropCorrection 14 = .ok (.iload_n 1, 1) := by decide +kernel
theorem dX7_dropCorrection_15 : decode cX7_dropCorrection 15 = .ok (.invokevirtual 124, 3) := by decide +kernel
theorem dX7_dropCorrection_18 : decode cX7_dropCorrection 18 = .ok (.ifCond .ne 6, 3) := by decide +kernel
theorem dX7_dropCorrection_21 : decode cX7_dropCorrection 21 = .ok (.ldc 127, 2) := by decide +kernel
theorem dX7_dropCorrection_23 : decode cX7_dropCorrection 23 = .ok (.ireturn, 1) := by decide +kernel
theorem dX7_dropCorrection_24 : decode cX7_dropCorrection 24 = .ok (.aload_n 0, 1) := by decide +kernel
theorem dX7_dropCorrection_25 : decode cX7_dropCorrection 25 = .ok (.iload_n 1, 1) := by decide +kernel
theorem dX7_dropCorrection_26 : decode cX7_dropCorrection 26 = .ok (.iload_n 1, 1) := by decide +kernel
theorem dX7_dropCorrection_27 : decode cX7_dropCorrection 27 = .ok (.invokevirtual 118, 3) := by decide +kernel
theorem dX7_dropCorrection_30 : decode cX7_dropCorrection 30 = .ok (.istore_n 2, 1) := by decide +kernel
theorem dX7_dropCorrection_31 : decode cX7_dropCorrection 31 = .ok (.aload_n 0, 1) := by decide +kernel
theorem dX7_dropCorrection_32 : decode cX7_dropCorrection 32 = .ok (.getfield 21, 3) := by decide +kernel
theorem dX7_dropCorrection_35 : decode cX7_dropCorrection 35 = .ok (.iload_n 1, 1) := by decide +kernel
theorem dX7_dropCorrection_36 : decode cX7_dropCorrection 36 = .ok (.iconst (-1), 1) := by decide +kernel
theorem dX7_dropCorrection_37 : decode cX7_dropCorrection 37 = .ok (.invokevirtual 121, 3) := by decide +kernel
theorem dX7_dropCorrection_40 : decode cX7_dropCorrection 40 = .ok (.iload_n 2, 1) := by decide +kernel
theorem dX7_dropCorrection_41 : decode cX7_dropCorrection 41 = .ok (.ireturn, 1) := by decide +kernel
theorem dX7_addSpeaker_0 : decode cX7_addSpeaker 0 = .ok (.iload_n 1, 1) := by decide +kernel
theorem dX7_addSpeaker_1 : decode cX7_addSpeaker 1 = .ok (.invokestatic 46, 3) := by decide +kernel
theorem dX7_addSpeaker_4 : decode cX7_addSpeaker 4 = .ok (.ifCond .ne 6, 3) := by decide +kernel
theorem dX7_addSpeaker_7 : decode cX7_addSpeaker 7 = .ok (.ldc 50, 2) := by decide +kernel
theorem dX7_addSpeaker_9 : decode cX7_addSpeaker 9 = .ok (.ireturn, 1) := by decide +kernel
theorem dX7_addSpeaker_10 : decode cX7_addSpeaker 10 = .ok (.aload_n 0, 1) := by decide +kernel
theorem dX7_addSpeaker_11 : decode cX7_addSpeaker 11 = .ok (.getfield 28, 3) := by decide +kernel
theorem dX7_addSpeaker_14 : decode cX7_addSpeaker 14 = .ok (.invokevirtual 128, 3) := by decide +kernel
theorem dX7_addSpeaker_17 : decode cX7_addSpeaker 17 = .ok (.istore_n 2, 1) := by decide +kernel
theorem dX7_addSpeaker_18 : decode cX7_addSpeaker 18 = .ok (.iload_n 2, 1) := by decide +kernel
theorem dX7_addSpeaker_19 : decode cX7_addSpeaker 19 = .ok (.iconst (-1), 1) := by decide +kernel
theorem dX7_addSpeaker_20 : decode cX7_addSpeaker 20 = .ok (.if_icmp .ne 6, 3) := by decide +kernel
theorem dX7_addSpeaker_23 : decode cX7_addSpeaker 23 = .ok (.ldc 55, 2) := by decide +kernel
theorem dX7_addSpeaker_25 : decode cX7_addSpeaker 25 = .ok (.ireturn, 1) := by decide +kernel
theorem dX7_addSpeaker_26 : decode cX7_addSpeaker 26 = .ok (.aload_n 0, 1) := by decide +kernel
theorem dX7_addSpeaker_27 : decode cX7_addSpeaker 27 = .ok (.getfield 28, 3) := by decide +kernel
theorem dX7_addSpeaker_30 : decode cX7_addSpeaker 30 = .ok (.iload_n 2, 1) := by decide +kernel
theorem dX7_addSpeaker_31 : decode cX7_addSpeaker 31 = .ok (.iload_n 1, 1) := by decide +kernel
theorem dX7_addSpeaker_32 : decode cX7_addSpeaker 32 = .ok (.invokevirtual 131, 3) := by decide +kernel
theorem dX7_addSpeaker_35 : decode cX7_addSpeaker 35 = .ok (.iload_n 2, 1) := by decide +kernel
theorem dX7_addSpeaker_36 : decode cX7_addSpeaker 36 = .ok (.ireturn, 1) := by decide +kernel
theorem dX7_giveTurn_0 : decode cX7_giveTurn 0 = .ok (.aload_n 0, 1) := by decide +kernel
theorem dX7_giveTurn_1 : decode cX7_giveTurn 1 = .ok (.getfield 12, 3) := by decide +kernel
theorem dX7_giveTurn_4 : decode cX7_giveTurn 4 = .ok (.iload_n 1, 1) := by decide +kernel
theorem dX7_giveTurn_5 : decode cX7_giveTurn 5 = .ok (.invokevirtual 64, 3) := by decide +kernel
theorem dX7_giveTurn_8 : decode cX7_giveTurn 8 = .ok (.ifCond .eq 14, 3) := by decide +kernel
theorem dX7_giveTurn_11 : decode cX7_giveTurn 11 = .ok (.aload_n 0, 1) := by decide +kernel
theorem dX7_giveTurn_12 : decode cX7_giveTurn 12 = .ok (.getfield 28, 3) := by decide +kernel
theorem dX7_giveTurn_15 : decode cX7_giveTurn 15 = .ok (.iload_n 2, 1) := by decide +kernel
theorem dX7_giveTurn_16 : decode cX7_giveTurn 16 = .ok (.invokevirtual 134, 3) := by decide +kernel
theorem dX7_giveTurn_19 : decode cX7_giveTurn 19 = .ok (.ifCond .ne 6, 3) := by decide +kernel
theorem dX7_giveTurn_22 : decode cX7_giveTurn 22 = .ok (.ldc 50, 2) := by decide +kernel
theorem dX7_giveTurn_24 : decode cX7_giveTurn 24 = .ok (.ireturn, 1) := by decide +kernel
theorem dX7_giveTurn_25 : decode cX7_giveTurn 25 = .ok (.aload_n 0, 1) := by decide +kernel
theorem dX7_giveTurn_26 : decode cX7_giveTurn 26 = .ok (.getfield 12, 3) := by decide +kernel
theorem dX7_giveTurn_29 : decode cX7_giveTurn 29 = .ok (.iload_n 1, 1) := by decide +kernel
theorem dX7_giveTurn_30 : decode cX7_giveTurn 30 = .ok (.invokevirtual 93, 3) := by decide +kernel
theorem dX7_giveTurn_33 : decode cX7_giveTurn 33 = .ok (.iload_n 2, 1) := by decide +kernel
theorem dX7_giveTurn_34 : decode cX7_giveTurn 34 = .ok (.if_icmp .ne 6, 3) := by decide +kernel
theorem dX7_giveTurn_37 : decode cX7_giveTurn 37 = .ok (.ldc 127, 2) := by decide +kernel
theorem dX7_giveTurn_39 : decode cX7_giveTurn 39 = .ok (.ireturn, 1) := by decide +kernel
theorem dX7_giveTurn_40 : decode cX7_giveTurn 40 = .ok (.aload_n 0, 1) := by decide +kernel
theorem dX7_giveTurn_41 : decode cX7_giveTurn 41 = .ok (.getfield 12, 3) := by decide +kernel
theorem dX7_giveTurn_44 : decode cX7_giveTurn 44 = .ok (.iload_n 1, 1) := by decide +kernel
theorem dX7_giveTurn_45 : decode cX7_giveTurn 45 = .ok (.iload_n 2, 1) := by decide +kernel
theorem dX7_giveTurn_46 : decode cX7_giveTurn 46 = .ok (.invokevirtual 135, 3) := by decide +kernel
theorem dX7_giveTurn_49 : decode cX7_giveTurn 49 = .ok (.aload_n 0, 1) := by decide +kernel
theorem dX7_giveTurn_50 : decode cX7_giveTurn 50 = .ok (.getfield 12, 3) := by decide +kernel
theorem dX7_giveTurn_53 : decode cX7_giveTurn 53 = .ok (.iload_n 2, 1) := by decide +kernel
theorem dX7_giveTurn_54 : decode cX7_giveTurn 54 = .ok (.aload_n 0, 1) := by decide +kernel
theorem dX7_giveTurn_55 : decode cX7_giveTurn 55 = .ok (.getfield 28, 3) := by decide +kernel
theorem dX7_giveTurn_58 : decode cX7_giveTurn 58 = .ok (.iload_n 2, 1) := by decide +kernel
theorem dX7_giveTurn_59 : decode cX7_giveTurn 59 = .ok (.invokevirtual 138, 3) := by decide +kernel
theorem dX7_giveTurn_62 : decode cX7_giveTurn 62 = .ok (.invokevirtual 139, 3) := by decide +kernel
theorem dX7_giveTurn_65 : decode cX7_giveTurn 65 = .ok (.istore_n 3, 1) := by decide +kernel
theorem dX7_giveTurn_66 : decode cX7_giveTurn 66 = .ok (.aload_n 0, 1) := by decide +kernel
theorem dX7_giveTurn_67 : decode cX7_giveTurn 67 = .ok (.getfield 28, 3) := by decide +kernel
theorem dX7_giveTurn_70 : decode cX7_giveTurn 70 = .ok (.iload_n 2, 1) := by decide +kernel
theorem dX7_giveTurn_71 : decode cX7_giveTurn 71 = .ok (.iload_n 3, 1) := by decide +kernel
theorem dX7_giveTurn_72 : decode cX7_giveTurn 72 = .ok (.invokevirtual 131, 3) := by decide +kernel
theorem dX7_giveTurn_75 : decode cX7_giveTurn 75 = .ok (.iload_n 3, 1) := by decide +kernel
theorem dX7_giveTurn_76 : decode cX7_giveTurn 76 = .ok (.ireturn, 1) := by decide +kernel
theorem dX7_joinSpeakers_0 : decode cX7_joinSpeakers 0 = .ok (.aload_n 0, 1) := by decide +kernel
theorem dX7_joinSpeakers_1 : decode cX7_joinSpeakers 1 = .ok (.getfield 28, 3) := by decide +kernel
theorem dX7_joinSpeakers_4 : decode cX7_joinSpeakers 4 = .ok (.iload_n 1, 1) := by decide +kernel
theorem dX7_joinSpeakers_5 : decode cX7_joinSpeakers 5 = .ok (.invokevirtual 134, 3) := by decide +kernel
theorem dX7_joinSpeakers_8 : decode cX7_joinSpeakers 8 = .ok (.ifCond .eq 19, 3) := by decide +kernel
theorem dX7_joinSpeakers_11 : decode cX7_joinSpeakers 11 = .ok (.aload_n 0, 1) := by decide +kernel
theorem dX7_joinSpeakers_12 : decode cX7_joinSpeakers 12 = .ok (.getfield 28, 3) := by decide +kernel
theorem dX7_joinSpeakers_15 : decode cX7_joinSpeakers 15 = .ok (.iload_n 2, 1) := by decide +kernel
theorem dX7_joinSpeakers_16 : decode cX7_joinSpeakers 16 = .ok (.invokevirtual 134, 3) := by decide +kernel
theorem dX7_joinSpeakers_19 : decode cX7_joinSpeakers 19 = .ok (.ifCond .eq 8, 3) := by decide +kernel
theorem dX7_joinSpeakers_22 : decode cX7_joinSpeakers 22 = .ok (.iload_n 1, 1) := by decide +kernel
theorem dX7_joinSpeakers_23 : decode cX7_joinSpeakers 23 = .ok (.iload_n 2, 1) := by decide +kernel
theorem dX7_joinSpeakers_24 : decode cX7_joinSpeakers 24 = .ok (.if_icmp .ne 6, 3) := by decide +kernel
theorem dX7_joinSpeakers_27 : decode cX7_joinSpeakers 27 = .ok (.ldc 50, 2) := by decide +kernel
theorem dX7_joinSpeakers_29 : decode cX7_joinSpeakers 29 = .ok (.ireturn, 1) := by decide +kernel
theorem dX7_joinSpeakers_30 : decode cX7_joinSpeakers 30 = .ok (.aload_n 0, 1) := by decide +kernel
theorem dX7_joinSpeakers_31 : decode cX7_joinSpeakers 31 = .ok (.getfield 12, 3) := by decide +kernel
theorem dX7_joinSpeakers_34 : decode cX7_joinSpeakers 34 = .ok (.iload_n 1, 1) := by decide +kernel
theorem dX7_joinSpeakers_35 : decode cX7_joinSpeakers 35 = .ok (.iload_n 2, 1) := by decide +kernel
theorem dX7_joinSpeakers_36 : decode cX7_joinSpeakers 36 = .ok (.invokevirtual 142, 3) := by decide +kernel
theorem dX7_joinSpeakers_39 : decode cX7_joinSpeakers 39 = .ok (.aload_n 0, 1) := by decide +kernel
theorem dX7_joinSpeakers_40 : decode cX7_joinSpeakers 40 = .ok (.getfield 28, 3) := by decide +kernel
theorem dX7_joinSpeakers_43 : decode cX7_joinSpeakers 43 = .ok (.iload_n 1, 1) := by decide +kernel
theorem dX7_joinSpeakers_44 : decode cX7_joinSpeakers 44 = .ok (.invokevirtual 145, 3) := by decide +kernel
theorem dX7_joinSpeakers_47 : decode cX7_joinSpeakers 47 = .ok (.aload_n 0, 1) := by decide +kernel
theorem dX7_joinSpeakers_48 : decode cX7_joinSpeakers 48 = .ok (.getfield 28, 3) := by decide +kernel
theorem dX7_joinSpeakers_51 : decode cX7_joinSpeakers 51 = .ok (.iload_n 2, 1) := by decide +kernel
theorem dX7_joinSpeakers_52 : decode cX7_joinSpeakers 52 = .ok (.aload_n 0, 1) := by decide +kernel
theorem dX7_joinSpeakers_53 : decode cX7_joinSpeakers 53 = .ok (.getfield 12, 3) := by decide +kernel
theorem dX7_joinSpeakers_56 : decode cX7_joinSpeakers 56 = .ok (.iload_n 2, 1) := by decide +kernel
theorem dX7_joinSpeakers_57 : decode cX7_joinSpeakers 57 = .ok (.aload_n 0, 1) := by decide +kernel
theorem dX7_joinSpeakers_58 : decode cX7_joinSpeakers 58 = .ok (.getfield 28, 3) := by decide +kernel
theorem dX7_joinSpeakers_61 : decode cX7_joinSpeakers 61 = .ok (.iload_n 2, 1) := by decide +kernel
theorem dX7_joinSpeakers_62 : decode cX7_joinSpeakers 62 = .ok (.invokevirtual 138, 3) := by decide +kernel
theorem dX7_joinSpeakers_65 : decode cX7_joinSpeakers 65 = .ok (.invokevirtual 139, 3) := by decide +kernel
theorem dX7_joinSpeakers_68 : decode cX7_joinSpeakers 68 = .ok (.invokevirtual 131, 3) := by decide +kernel
theorem dX7_joinSpeakers_71 : decode cX7_joinSpeakers 71 = .ok (.aload_n 0, 1) := by decide +kernel
theorem dX7_joinSpeakers_72 : decode cX7_joinSpeakers 72 = .ok (.getfield 12, 3) := by decide +kernel
theorem dX7_joinSpeakers_75 : decode cX7_joinSpeakers 75 = .ok (.iload_n 2, 1) := by decide +kernel
theorem dX7_joinSpeakers_76 : decode cX7_joinSpeakers 76 = .ok (.invokevirtual 148, 3) := by decide +kernel
theorem dX7_joinSpeakers_79 : decode cX7_joinSpeakers 79 = .ok (.ireturn, 1) := by decide +kernel
theorem dX7_changeSetting_0 : decode cX7_changeSetting 0 = .ok (.iload_n 1, 1) := by decide +kernel
theorem dX7_changeSetting_1 : decode cX7_changeSetting 1 = .ok (.ifCond .ne 14, 3) := by decide +kernel
theorem dX7_changeSetting_4 : decode cX7_changeSetting 4 = .ok (.iload_n 2, 1) := by decide +kernel
theorem dX7_changeSetting_5 : decode cX7_changeSetting 5 = .ok (.iconst 0, 1) := by decide +kernel
theorem dX7_changeSetting_6 : decode cX7_changeSetting 6 = .ok (.sipush 200, 3) := by decide +kernel
theorem dX7_changeSetting_9 : decode cX7_changeSetting 9 = .ok (.invokestatic 86, 3) := by decide +kernel
theorem dX7_changeSetting_12 : decode cX7_changeSetting 12 = .ok (.ifCond .ne 6, 3) := by decide +kernel
theorem dX7_changeSetting_15 : decode cX7_changeSetting 15 = .ok (.ldc 50, 2) := by decide +kernel
theorem dX7_changeSetting_17 : decode cX7_changeSetting 17 = .ok (.ireturn, 1) := by decide +kernel
theorem dX7_changeSetting_18 : decode cX7_changeSetting 18 = .ok (.aload_n 0, 1) := by decide +kernel
theorem dX7_changeSetting_19 : decode cX7_changeSetting 19 = .ok (.getfield 32, 3) := by decide +kernel
theorem dX7_changeSetting_22 : decode cX7_changeSetting 22 = .ok (.istore_n 3, 1) := by decide +kernel
theorem dX7_changeSetting_23 : decode cX7_changeSetting 23 = .ok (.aload_n 0, 1) := by decide +kernel
theorem dX7_changeSetting_24 : decode cX7_changeSetting 24 = .ok (.iload_n 2, 1) := by decide +kernel
theorem dX7_changeSetting_25 : decode cX7_changeSetting 25 = .ok (.putfield 32, 3) := by decide +kernel
theorem dX7_changeSetting_28 : decode cX7_changeSetting 28 = .ok (.iload_n 3, 1) := by decide +kernel
theorem dX7_changeSetting_29 : decode cX7_changeSetting 29 = .ok (.ireturn, 1) := by decide +kernel
theorem dX7_setting_0 : decode cX7_setting 0 = .ok (.aload_n 0, 1) := by decide +kernel
theorem dX7_setting_1 : decode cX7_setting 1 = .ok (.getfield 32, 3) := by decide +kernel
theorem dX7_setting_4 : decode cX7_setting 4 = .ok (.ireturn, 1) := by decide +kernel
theorem dX7_closestSpeaker_0 : decode cX7_closestSpeaker 0 = .ok (.aload_n 0, 1) := by decide +kernel
theorem dX7_closestSpeaker_1 : decode cX7_closestSpeaker 1 = .ok (.getfield 28, 3) := by decide +kernel
theorem dX7_closestSpeaker_4 : decode cX7_closestSpeaker 4 = .ok (.iload_n 1, 1) := by decide +kernel
theorem dX7_closestSpeaker_5 : decode cX7_closestSpeaker 5 = .ok (.aload_n 0, 1) := by decide +kernel
theorem dX7_closestSpeaker_6 : decode cX7_closestSpeaker 6 = .ok (.getfield 32, 3) := by decide +kernel
theorem dX7_closestSpeaker_9 : decode cX7_closestSpeaker 9 = .ok (.invokevirtual 151, 3) := by decide +kernel
theorem dX7_closestSpeaker_12 : decode cX7_closestSpeaker 12 = .ok (.ireturn, 1) := by decide +kernel
theorem dX7_placesReshown_0 : decode cX7_placesReshown 0 = .ok (.aload_n 0, 1) := by decide +kernel
theorem dX7_placesReshown_1 : decode cX7_placesReshown 1 = .ok (.getfield 21, 3) := by decide +kernel
theorem dX7_placesReshown_4 : decode cX7_placesReshown 4 = .ok (.iload_n 1, 1) := by decide +kernel
theorem dX7_placesReshown_5 : decode cX7_placesReshown 5 = .ok (.invokevirtual 115, 3) := by decide +kernel
theorem dX7_placesReshown_8 : decode cX7_placesReshown 8 = .ok (.iload_n 2, 1) := by decide +kernel
theorem dX7_placesReshown_9 : decode cX7_placesReshown 9 = .ok (.if_icmp .ne 5, 3) := by decide +kernel
theorem dX7_placesReshown_12 : decode cX7_placesReshown 12 = .ok (.iconst 0, 1) := by decide +kernel
theorem dX7_placesReshown_13 : decode cX7_placesReshown 13 = .ok (.ireturn, 1) := by decide +kernel
theorem dX7_placesReshown_14 : decode cX7_placesReshown 14 = .ok (.iconst 0, 1) := by decide +kernel
theorem dX7_placesReshown_15 : decode cX7_placesReshown 15 = .ok (.istore_n 3, 1) := by decide +kernel
theorem dX7_placesReshown_16 : decode cX7_placesReshown 16 = .ok (.iconst 0, 1) := by decide +kernel
theorem dX7_placesReshown_17 : decode cX7_placesReshown 17 = .ok (.istore 4, 2) := by decide +kernel
theorem dX7_placesReshown_19 : decode cX7_placesReshown 19 = .ok (.iload 4, 2) := by decide +kernel
theorem dX7_placesReshown_21 : decode cX7_placesReshown 21 = .ok (.bipush 16, 2) := by decide +kernel
theorem dX7_placesReshown_23 : decode cX7_placesReshown 23 = .ok (.if_icmp .ge 34, 3) := by decide +kernel
theorem dX7_placesReshown_26 : decode cX7_placesReshown 26 = .ok (.aload_n 0, 1) := by decide +kernel
theorem dX7_placesReshown_27 : decode cX7_placesReshown 27 = .ok (.getfield 21, 3) := by decide +kernel
theorem dX7_placesReshown_30 : decode cX7_placesReshown 30 = .ok (.iload 4, 2) := by decide +kernel
theorem dX7_placesReshown_32 : decode cX7_placesReshown 32 = .ok (.iload_n 1, 1) := by decide +kernel
theorem dX7_placesReshown_33 : decode cX7_placesReshown 33 = .ok (.invokevirtual 154, 3) := by decide +kernel
theorem dX7_placesReshown_36 : decode cX7_placesReshown 36 = .ok (.ifCond .eq 15, 3) := by decide +kernel
theorem dX7_placesReshown_39 : decode cX7_placesReshown 39 = .ok (.iload_n 3, 1) := by decide +kernel
theorem dX7_placesReshown_40 : decode cX7_placesReshown 40 = .ok (.aload_n 0, 1) := by decide +kernel
theorem dX7_placesReshown_41 : decode cX7_placesReshown 41 = .ok (.getfield 12, 3) := by decide +kernel
theorem dX7_placesReshown_44 : decode cX7_placesReshown 44 = .ok (.iload 4, 2) := by decide +kernel
theorem dX7_placesReshown_46 : decode cX7_placesReshown 46 = .ok (.invokevirtual 158, 3) := by decide +kernel
theorem dX7_placesReshown_49 : decode cX7_placesReshown 49 = .ok (.iadd, 1) := by decide +kernel
theorem dX7_placesReshown_50 : decode cX7_placesReshown 50 = .ok (.istore_n 3, 1) := by decide +kernel
theorem dX7_placesReshown_51 : decode cX7_placesReshown 51 = .ok (.iinc 4 1, 3) := by decide +kernel
theorem dX7_placesReshown_54 : decode cX7_placesReshown 54 = .ok (.goto (-35), 3) := by decide +kernel
theorem dX7_placesReshown_57 : decode cX7_placesReshown 57 = .ok (.iload_n 3, 1) := by decide +kernel
theorem dX7_placesReshown_58 : decode cX7_placesReshown 58 = .ok (.ireturn, 1) := by decide +kernel
theorem dX7_isPitch_0 : decode cX7_isPitch 0 = .ok (.iload_n 0, 1) := by decide +kernel
theorem dX7_isPitch_1 : decode cX7_isPitch 1 = .ok (.bipush 50, 2) := by decide +kernel
theorem dX7_isPitch_3 : decode cX7_isPitch 3 = .ok (.sipush 500, 3) := by decide +kernel
theorem dX7_isPitch_6 : decode cX7_isPitch 6 = .ok (.invokestatic 86, 3) := by decide +kernel
theorem dX7_isPitch_9 : decode cX7_isPitch 9 = .ok (.ireturn, 1) := by decide +kernel
theorem dX8_init_0 : decode cX8_init 0 = .ok (.aload_n 0, 1) := by decide +kernel
theorem dX8_init_1 : decode cX8_init 1 = .ok (.invokespecial 3, 3) := by decide +kernel
theorem dX8_init_4 : decode cX8_init 4 = .ok (.aload_n 0, 1) := by decide +kernel
theorem dX8_init_5 : decode cX8_init 5 = .ok (.bipush 20, 2) := by decide +kernel
theorem dX8_init_7 : decode cX8_init 7 = .ok (.newarray .int, 2) := by decide +kernel
theorem dX8_init_9 : decode cX8_init 9 = .ok (.putfield 9, 3) := by decide +kernel
theorem dX8_init_12 : decode cX8_init 12 = .ok (.aload_n 0, 1) := by decide +kernel
theorem dX8_init_13 : decode cX8_init 13 = .ok (.bipush 20, 2) := by decide +kernel
theorem dX8_init_15 : decode cX8_init 15 = .ok (.newarray .int, 2) := by decide +kernel
theorem dX8_init_17 : decode cX8_init 17 = .ok (.putfield 15, 3) := by decide +kernel
theorem dX8_init_20 : decode cX8_init 20 = .ok (.aload_n 0, 1) := by decide +kernel
theorem dX8_init_21 : decode cX8_init 21 = .ok (.bipush 20, 2) := by decide +kernel
theorem dX8_init_23 : decode cX8_init 23 = .ok (.newarray .int, 2) := by decide +kernel
theorem dX8_init_25 : decode cX8_init 25 = .ok (.putfield 18, 3) := by decide +kernel
theorem dX8_init_28 : decode cX8_init 28 = .ok (.aload_n 0, 1) := by decide +kernel
theorem dX8_init_29 : decode cX8_init 29 = .ok (.bipush 20, 2) := by decide +kernel
theorem dX8_init_31 : decode cX8_init 31 = .ok (.newarray .int, 2) := by decide +kernel
theorem dX8_init_33 : decode cX8_init 33 = .ok (.putfield 21, 3) := by decide +kernel
theorem dX8_init_36 : decode cX8_init 36 = .ok (.aload_n 0, 1) := by decide +kernel
theorem dX8_init_37 : decode cX8_init 37 = .ok (.bipush 20, 2) := by decide +kernel
theorem dX8_init_39 : decode cX8_init 39 = .ok (.newarray .int, 2) := by decide +kernel
theorem dX8_init_41 : decode cX8_init 41 = .ok (.putfield 24, 3) := by decide +kernel
theorem dX8_init_44 : decode cX8_init 44 = .ok (.aload_n 0, 1) := by decide +kernel
theorem dX8_init_45 : decode cX8_init 45 = .ok (.sipush 160, 3) := by decide +kernel
theorem dX8_init_48 : decode cX8_init 48 = .ok (.newarray .int, 2) := by decide +kernel
theorem dX8_init_50 : decode cX8_init 50 = .ok (.putfield 27, 3) := by decide +kernel
theorem dX8_init_53 : decode cX8_init 53 = .ok (.return_, 1) := by decide +kernel
theorem dX8_takeFrom_0 : decode cX8_takeFrom 0 = .ok (.aload_n 1, 1) := by decide +kernel
theorem dX8_takeFrom_1 : decode cX8_takeFrom 1 = .ok (.getfield 9, 3) := by decide +kernel
theorem dX8_takeFrom_4 : decode cX8_takeFrom 4 = .ok (.iconst 0, 1) := by decide +kernel
theorem dX8_takeFrom_5 : decode cX8_takeFrom 5 = .ok (.aload_n 0, 1) := by decide +kernel
theorem dX8_takeFrom_6 : decode cX8_takeFrom 6 = .ok (.getfield 9, 3) := by decide +kernel
theorem dX8_takeFrom_9 : decode cX8_takeFrom 9 = .ok (.iconst 0, 1) := by decide +kernel
theorem dX8_takeFrom_10 : decode cX8_takeFrom 10 = .ok (.bipush 20, 2) := by decide +kernel
theorem dX8_takeFrom_12 : decode cX8_takeFrom 12 = .ok (.invokestatic 30, 3) := by decide +kernel
theorem dX8_takeFrom_15 : decode cX8_takeFrom 15 = .ok (.aload_n 1, 1) := by decide +kernel
theorem dX8_takeFrom_16 : decode cX8_takeFrom 16 = .ok (.getfield 15, 3) := by decide +kernel
theorem dX8_takeFrom_19 : decode cX8_takeFrom 19 = .ok (.iconst 0, 1) := by decide +kernel
theorem dX8_takeFrom_20 : decode cX8_takeFrom 20 = .ok (.aload_n 0, 1) := by decide +kernel
theorem dX8_takeFrom_21 : decode cX8_takeFrom 21 = .ok (.getfield 15, 3) := by decide +kernel
theorem dX8_takeFrom_24 : decode cX8_takeFrom 24 = .ok (.iconst 0, 1) := by decide +kernel
theorem dX8_takeFrom_25 : decode cX8_takeFrom 25 = .ok (.bipush 20, 2) := by decide +kernel
theorem dX8_takeFrom_27 : decode cX8_takeFrom 27 = .ok (.invokestatic 30, 3) := by decide +kernel
theorem dX8_takeFrom_30 : decode cX8_takeFrom 30 = .ok (.aload_n 1, 1) := by decide +kernel
theorem dX8_takeFrom_31 : decode cX8_takeFrom 31 = .ok (.getfield 18, 3) := by decide +kernel
theorem dX8_takeFrom_34 : decode cX8_takeFrom 34 = .ok (.iconst 0, 1) := by decide +kernel
theorem dX8_takeFrom_35 : decode cX8_takeFrom 35 = .ok (.aload_n 0, 1) := by decide +kernel
theorem dX8_takeFrom_36 : decode cX8_takeFrom 36 = .ok (.getfield 18, 3) := by decide +kernel
theorem dX8_takeFrom_39 : decode cX8_takeFrom 39 = .ok (.iconst 0, 1) := by decide +kernel
theorem dX8_takeFrom_40 : decode cX8_takeFrom 40 = .ok (.bipush 20, 2) := by decide +kernel
theorem dX8_takeFrom_42 : decode cX8_takeFrom 42 = .ok (.invokestatic 30, 3) := by decide +kernel
theorem dX8_takeFrom_45 : decode cX8_takeFrom 45 = .ok (.aload_n 1, 1) := by decide +kernel
theorem dX8_takeFrom_46 : decode cX8_takeFrom 46 = .ok (.getfield 21, 3) := by decide +kernel
theorem dX8_takeFrom_49 : decode cX8_takeFrom 49 = .ok (.iconst 0, 1) := by decide +kernel
theorem dX8_takeFrom_50 : decode cX8_takeFrom 50 = .ok (.aload_n 0, 1) := by decide +kernel
theorem dX8_takeFrom_51 : decode cX8_takeFrom 51 = .ok (.getfield 21, 3) := by decide +kernel
theorem dX8_takeFrom_54 : decode cX8_takeFrom 54 = .ok (.iconst 0, 1) := by decide +kernel
theorem dX8_takeFrom_55 : decode cX8_takeFrom 55 = .ok (.bipush 20, 2) := by decide +kernel
theorem dX8_takeFrom_57 : decode cX8_takeFrom 57 = .ok (.invokestatic 30, 3) := by decide +kernel
theorem dX8_takeFrom_60 : decode cX8_takeFrom 60 = .ok (.aload_n 1, 1) := by decide +kernel
theorem dX8_takeFrom_61 : decode cX8_takeFrom 61 = .ok (.getfield 24, 3) := by decide +kernel
theorem dX8_takeFrom_64 : decode cX8_takeFrom 64 = .ok (.iconst 0, 1) := by decide +kernel
theorem dX8_takeFrom_65 : decode cX8_takeFrom 65 = .ok (.aload_n 0, 1) := by decide +kernel
theorem dX8_takeFrom_66 : decode cX8_takeFrom 66 = .ok (.getfield 24, 3) := by decide +kernel
theorem dX8_takeFrom_69 : decode cX8_takeFrom 69 = .ok (.iconst 0, 1) := by decide +kernel
theorem dX8_takeFrom_70 : decode cX8_takeFrom 70 = .ok (.bipush 20, 2) := by decide +kernel
theorem dX8_takeFrom_72 : decode cX8_takeFrom 72 = .ok (.invokestatic 30, 3) := by decide +kernel
theorem dX8_takeFrom_75 : decode cX8_takeFrom 75 = .ok (.aload_n 1, 1) := by decide +kernel
theorem dX8_takeFrom_76 : decode cX8_takeFrom 76 = .ok (.getfield 27, 3) := by decide +kernel
theorem dX8_takeFrom_79 : decode cX8_takeFrom 79 = .ok (.iconst 0, 1) := by decide +kernel
theorem dX8_takeFrom_80 : decode cX8_takeFrom 80 = .ok (.aload_n 0, 1) := by decide +kernel
theorem dX8_takeFrom_81 : decode cX8_takeFrom 81 = .ok (.getfield 27, 3) := by decide +kernel
theorem dX8_takeFrom_84 : decode cX8_takeFrom 84 = .ok (.iconst 0, 1) := by decide +kernel
theorem dX8_takeFrom_85 : decode cX8_takeFrom 85 = .ok (.sipush 160, 3) := by decide +kernel
theorem dX8_takeFrom_88 : decode cX8_takeFrom 88 = .ok (.invokestatic 30, 3) := by decide +kernel
theorem dX8_takeFrom_91 : decode cX8_takeFrom 91 = .ok (.aload_n 0, 1) := by decide +kernel
theorem dX8_takeFrom_92 : decode cX8_takeFrom 92 = .ok (.aload_n 1, 1) := by decide +kernel
theorem dX8_takeFrom_93 : decode cX8_takeFrom 93 = .ok (.getfield 36, 3) := by decide +kernel
theorem dX8_takeFrom_96 : decode cX8_takeFrom 96 = .ok (.putfield 36, 3) := by decide +kernel
theorem dX8_takeFrom_99 : decode cX8_takeFrom 99 = .ok (.return_, 1) := by decide +kernel
theorem dX8_size_0 : decode cX8_size 0 = .ok (.aload_n 0, 1) := by decide +kernel
theorem dX8_size_1 : decode cX8_size 1 = .ok (.getfield 36, 3) := by decide +kernel
theorem dX8_size_4 : decode cX8_size 4 = .ok (.ireturn, 1) := by decide +kernel
theorem dX8_isFull_0 : decode cX8_isFull 0 = .ok (.aload_n 0, 1) := by decide +kernel
theorem dX8_isFull_1 : decode cX8_isFull 1 = .ok (.getfield 36, 3) := by decide +kernel
theorem dX8_isFull_4 : decode cX8_isFull 4 = .ok (.bipush 20, 2) := by decide +kernel
theorem dX8_isFull_6 : decode cX8_isFull 6 = .ok (.if_icmp .lt 7, 3) := by decide +kernel
theorem dX8_isFull_9 : decode cX8_isFull 9 = .ok (.iconst 1, 1) := by decide +kernel
theorem dX8_isFull_10 : decode cX8_isFull 10 = .ok (.goto 4, 3) := by decide +kernel
theorem dX8_isFull_13 : decode cX8_isFull 13 = .ok (.iconst 0, 1) := by decide +kernel
theorem dX8_isFull_14 : decode cX8_isFull 14 = .ok (.ireturn, 1) := by decide +kernel
theorem dX8_has_0 : decode cX8_has 0 = .ok (.iload_n 1, 1) := by decide +kernel
theorem dX8_has_1 : decode cX8_has 1 = .ok (.ifCond .lt 21, 3) := by decide +kernel
theorem dX8_has_4 : decode cX8_has 4 = .ok (.iload_n 1, 1) := by decide +kernel
theorem dX8_has_5 : decode cX8_has 5 = .ok (.aload_n 0, 1) := by decide +kernel
theorem dX8_has_6 : decode cX8_has 6 = .ok (.getfield 36, 3) := by decide +kernel
theorem dX8_has_9 : decode cX8_has 9 = .ok (.if_icmp .ge 13, 3) := by decide +kernel
theorem dX8_has_12 : decode cX8_has 12 = .ok (.iload_n 1, 1) := by decide +kernel
theorem dX8_has_13 : decode cX8_has 13 = .ok (.bipush 20, 2) := by decide +kernel
theorem dX8_has_15 : decode cX8_has 15 = .ok (.if_icmp .ge 7, 3) := by decide +kernel
theorem dX8_has_18 : decode cX8_has 18 = .ok (.iconst 1, 1) := by decide +kernel
theorem dX8_has_19 : decode cX8_has 19 = .ok (.goto 4, 3) := by decide +kernel
theorem dX8_has_22 : decode cX8_has 22 = .ok (.iconst 0, 1) := by decide +kernel
theorem dX8_has_23 : decode cX8_has 23 = .ok (.ireturn, 1) := by decide +kernel
theorem dX8_beginOf_0 : decode cX8_beginOf 0 = .ok (.aload_n 0, 1) := by decide +kernel
theorem dX8_beginOf_1 : decode cX8_beginOf 1 = .ok (.iload_n 1, 1) := by decide +kernel
theorem dX8_beginOf_2 : decode cX8_beginOf 2 = .ok (.invokevirtual 40, 3) := by decide +kernel
theorem dX8_beginOf_5 : decode cX8_beginOf 5 = .ok (.ifCond .eq 12, 3) := by decide +kernel
theorem dX8_beginOf_8 : decode cX8_beginOf 8 = .ok (.aload_n 0, 1) := by decide +kernel
theorem dX8_beginOf_9 : decode cX8_beginOf 9 = .ok (.getfield 9, 3) := by decide +kernel
theorem dX8_beginOf_12 : decode cX8_beginOf 12 = .ok (.iload_n 1, 1) := by decide +kernel
theorem dX8_beginOf_13 : decode cX8_beginOf 13 = .ok (.iaload, 1) := by decide +kernel
theorem dX8_beginOf_14 : decode cX8_beginOf 14 = .ok (.goto 4, 3) := by decide +kernel
theorem dX8_beginOf_17 : decode cX8_beginOf 17 = .ok (.iconst 0, 1) := by decide +kernel
theorem dX8_beginOf_18 : decode cX8_beginOf 18 = .ok (.ireturn, 1) := by decide +kernel
theorem dX8_endOf_0 : decode cX8_endOf 0 = .ok (.aload_n 0, 1) := by decide +kernel
theorem dX8_endOf_1 : decode cX8_endOf 1 = .ok (.iload_n 1, 1) := by decide +kernel
theorem dX8_endOf_2 : decode cX8_endOf 2 = .ok (.invokevirtual 40, 3) := by decide +kernel
theorem dX8_endOf_5 : decode cX8_endOf 5 = .ok (.ifCond .eq 12, 3) := by decide +kernel
theorem dX8_endOf_8 : decode cX8_endOf 8 = .ok (.aload_n 0, 1) := by decide +kernel
theorem dX8_endOf_9 : decode cX8_endOf 9 = .ok (.getfield 15, 3) := by decide +kernel
theorem dX8_endOf_12 : decode cX8_endOf 12 = .ok (.iload_n 1, 1) := by decide +kernel
theorem dX8_endOf_13 : decode cX8_endOf 13 = .ok (.iaload, 1) := by decide +kernel
theorem dX8_endOf_14 : decode cX8_endOf 14 = .ok (.goto 4, 3) := by decide +kernel
theorem dX8_endOf_17 : decode cX8_endOf 17 = .ok (.iconst 0, 1) := by decide +kernel
theorem dX8_endOf_18 : decode cX8_endOf 18 = .ok (.ireturn, 1) := by decide +kernel
theorem dX8_pitchOf_0 : decode cX8_pitchOf 0 = .ok (.aload_n 0, 1) := by decide +kernel
theorem dX8_pitchOf_1 : decode cX8_pitchOf 1 = .ok (.iload_n 1, 1) := by decide +kernel
theorem dX8_pitchOf_2 : decode cX8_pitchOf 2 = .ok (.invokevirtual 40, 3) := by decide +kernel
theorem dX8_pitchOf_5 : decode cX8_pitchOf 5 = .ok (.ifCond .eq 12, 3) := by decide +kernel
theorem dX8_pitchOf_8 : decode cX8_pitchOf 8 = .ok (.aload_n 0, 1) := by decide +kernel
theorem dX8_pitchOf_9 : decode cX8_pitchOf 9 = .ok (.getfield 18, 3) := by decide +kernel
theorem dX8_pitchOf_12 : decode cX8_pitchOf 12 = .ok (.iload_n 1, 1) := by decide +kernel
theorem dX8_pitchOf_13 : decode cX8_pitchOf 13 = .ok (.iaload, 1) := by decide +kernel
theorem dX8_pitchOf_14 : decode cX8_pitchOf 14 = .ok (.goto 4, 3) := by decide +kernel
theorem dX8_pitchOf_17 : decode cX8_pitchOf 17 = .ok (.iconst 0, 1) := by decide +kernel
theorem dX8_pitchOf_18 : decode cX8_pitchOf 18 = .ok (.ireturn, 1) := by decide +kernel
theorem dX8_ownerOf_0 : decode cX8_ownerOf 0 = .ok (.aload_n 0, 1) := by decide +kernel
theorem dX8_ownerOf_1 : decode cX8_ownerOf 1 = .ok (.iload_n 1, 1) := by decide +kernel
theorem dX8_ownerOf_2 : decode cX8_ownerOf 2 = .ok (.invokevirtual 40, 3) := by decide +kernel
theorem dX8_ownerOf_5 : decode cX8_ownerOf 5 = .ok (.ifCond .eq 12, 3) := by decide +kernel
theorem dX8_ownerOf_8 : decode cX8_ownerOf 8 = .ok (.aload_n 0, 1) := by decide +kernel
theorem dX8_ownerOf_9 : decode cX8_ownerOf 9 = .ok (.getfield 21, 3) := by decide +kernel
theorem dX8_ownerOf_12 : decode cX8_ownerOf 12 = .ok (.iload_n 1, 1) := by decide +kernel
theorem dX8_ownerOf_13 : decode cX8_ownerOf 13 = .ok (.iaload, 1) := by decide +kernel
theorem dX8_ownerOf_14 : decode cX8_ownerOf 14 = .ok (.goto 4, 3) := by decide +kernel
theorem dX8_ownerOf_17 : decode cX8_ownerOf 17 = .ok (.iconst (-1), 1) := by decide +kernel
theorem dX8_ownerOf_18 : decode cX8_ownerOf 18 = .ok (.ireturn, 1) := by decide +kernel
theorem dX8_termCountOf_0 : decode cX8_termCountOf 0 = .ok (.aload_n 0, 1) := by decide +kernel
theorem dX8_termCountOf_1 : decode cX8_termCountOf 1 = .ok (.iload_n 1, 1) := by decide +kernel
theorem dX8_termCountOf_2 : decode cX8_termCountOf 2 = .ok (.invokevirtual 40, 3) := by decide +kernel
theorem dX8_termCountOf_5 : decode cX8_termCountOf 5 = .ok (.ifCond .eq 12, 3) := by decide +kernel
theorem dX8_termCountOf_8 : decode cX8_termCountOf 8 = .ok (.aload_n 0, 1) := by decide +kernel
theorem dX8_termCountOf_9 : decode cX8_termCountOf 9 = .ok (.getfield 24, 3) := by decide +kernel
theorem dX8_termCountOf_12 : decode cX8_termCountOf 12 = .ok (.iload_n 1, 1) := by decide +kernel
theorem dX8_termCountOf_13 : decode cX8_termCountOf 13 = .ok (.iaload, 1) := by decide +kernel
theorem dX8_termCountOf_14 : decode cX8_termCountOf 14 = .ok (.goto 4, 3) := by decide +kernel
theorem dX8_termCountOf_17 : decode cX8_termCountOf 17 = .ok (.iconst 0, 1) := by decide +kernel
theorem dX8_termCountOf_18 : decode cX8_termCountOf 18 = .ok (.ireturn, 1) := by decide +kernel
theorem dX8_toldTerm_0 : decode cX8_toldTerm 0 = .ok (.aload_n 0, 1) := by decide +kernel
theorem dX8_toldTerm_1 : decode cX8_toldTerm 1 = .ok (.iload_n 1, 1) := by decide +kernel
theorem dX8_toldTerm_2 : decode cX8_toldTerm 2 = .ok (.invokevirtual 40, 3) := by decide +kernel
theorem dX8_toldTerm_5 : decode cX8_toldTerm 5 = .ok (.ifCond .eq 31, 3) := by decide +kernel
theorem dX8_toldTerm_8 : decode cX8_toldTerm 8 = .ok (.iload_n 2, 1) := by decide +kernel
theorem dX8_toldTerm_9 : decode cX8_toldTerm 9 = .ok (.ifCond .lt 27, 3) := by decide +kernel
theorem dX8_toldTerm_12 : decode cX8_toldTerm 12 = .ok (.iload_n 2, 1) := by decide +kernel
theorem dX8_toldTerm_13 : decode cX8_toldTerm 13 = .ok (.aload_n 0, 1) := by decide +kernel
theorem dX8_toldTerm_14 : decode cX8_toldTerm 14 = .ok (.getfield 24, 3) := by decide +kernel
theorem dX8_toldTerm_17 : decode cX8_toldTerm 17 = .ok (.iload_n 1, 1) := by decide +kernel
theorem dX8_toldTerm_18 : decode cX8_toldTerm 18 = .ok (.iaload, 1) := by decide +kernel
theorem dX8_toldTerm_19 : decode cX8_toldTerm 19 = .ok (.if_icmp .ge 17, 3) := by decide +kernel
theorem dX8_toldTerm_22 : decode cX8_toldTerm 22 = .ok (.aload_n 0, 1) := by decide +kernel
theorem dX8_toldTerm_23 : decode cX8_toldTerm 23 = .ok (.getfield 27, 3) := by decide +kernel
theorem dX8_toldTerm_26 : decode cX8_toldTerm 26 = .ok (.iload_n 1, 1) := by decide +kernel
theorem dX8_toldTerm_27 : decode cX8_toldTerm 27 = .ok (.bipush 8, 2) := by decide +kernel
theorem dX8_toldTerm_29 : decode cX8_toldTerm 29 = .ok (.imul, 1) := by decide +kernel
theorem dX8_toldTerm_30 : decode cX8_toldTerm 30 = .ok (.iload_n 2, 1) := by decide +kernel
theorem dX8_toldTerm_31 : decode cX8_toldTerm 31 = .ok (.iadd, 1) := by decide +kernel
theorem dX8_toldTerm_32 : decode cX8_toldTerm 32 = .ok (.iaload, 1) := by decide +kernel
theorem dX8_toldTerm_33 : decode cX8_toldTerm 33 = .ok (.goto 4, 3) := by decide +kernel
theorem dX8_toldTerm_36 : decode cX8_toldTerm 36 = .ok (.iconst (-1), 1) := by decide +kernel
theorem dX8_toldTerm_37 : decode cX8_toldTerm 37 = .ok (.ireturn, 1) := by decide +kernel
theorem dX8_insert_0 : decode cX8_insert 0 = .ok (.aload_n 0, 1) := by decide +kernel
theorem dX8_insert_1 : decode cX8_insert 1 = .ok (.invokevirtual 44, 3) := by decide +kernel
theorem dX8_insert_4 : decode cX8_insert 4 = .ok (.ifCond .eq 5, 3) := by decide +kernel
theorem dX8_insert_7 : decode cX8_insert 7 = .ok (.iconst (-1), 1) := by decide +kernel
theorem dX8_insert_8 : decode cX8_insert 8 = .ok (.ireturn, 1) := by decide +kernel
theorem dX8_insert_9 : decode cX8_insert 9 = .ok (.aload_n 0, 1) := by decide +kernel
theorem dX8_insert_10 : decode cX8_insert 10 = .ok (.iload_n 1, 1) := by decide +kernel
theorem dX8_insert_11 : decode cX8_insert 11 = .ok (.invokevirtual 48, 3) := by decide +kernel
theorem dX8_insert_14 : decode cX8_insert 14 = .ok (.istore 5, 2) := by decide +kernel
theorem dX8_insert_16 : decode cX8_insert 16 = .ok (.aload_n 0, 1) := by decide +kernel
theorem dX8_insert_17 : decode cX8_insert 17 = .ok (.iload 5, 2) := by decide +kernel
theorem dX8_insert_19 : decode cX8_insert 19 = .ok (.iload 5, 2) := by decide +kernel
theorem dX8_insert_21 : decode cX8_insert 21 = .ok (.iconst 1, 1) := by decide +kernel
theorem dX8_insert_22 : decode cX8_insert 22 = .ok (.iadd, 1) := by decide +kernel
theorem dX8_insert_23 : decode cX8_insert 23 = .ok (.invokevirtual 52, 3) := by decide +kernel
theorem dX8_insert_26 : decode cX8_insert 26 = .ok (.aload_n 0, 1) := by decide +kernel
theorem dX8_insert_27 : decode cX8_insert 27 = .ok (.dup, 1) := by decide +kernel
theorem dX8_insert_28 : decode cX8_insert 28 = .ok (.getfield 36, 3) := by decide +kernel
theorem dX8_insert_31 : decode cX8_insert 31 = .ok (.iconst 1, 1) := by decide +kernel
theorem dX8_insert_32 : decode cX8_insert 32 = .ok (.iadd, 1) := by decide +kernel
theorem dX8_insert_33 : decode cX8_insert 33 = .ok (.putfield 36, 3) := by decide +kernel
theorem dX8_insert_36 : decode cX8_insert 36 = .ok (.aload_n 0, 1) := by decide +kernel
theorem dX8_insert_37 : decode cX8_insert 37 = .ok (.getfield 9, 3) := by decide +kernel
theorem dX8_insert_40 : decode cX8_insert 40 = .ok (.iload 5, 2) := by decide +kernel
theorem dX8_insert_42 : decode cX8_insert 42 = .ok (.iload_n 1, 1) := by decide +kernel
theorem dX8_insert_43 : decode cX8_insert 43 = .ok (.iastore, 1) := by decide +kernel
theorem dX8_insert_44 : decode cX8_insert 44 = .ok (.aload_n 0, 1) := by decide +kernel
theorem dX8_insert_45 : decode cX8_insert 45 = .ok (.getfield 15, 3) := by decide +kernel
theorem dX8_insert_48 : decode cX8_insert 48 = .ok (.iload 5, 2) := by decide +kernel
theorem dX8_insert_50 : decode cX8_insert 50 = .ok (.iload_n 2, 1) := by decide +kernel
theorem dX8_insert_51 : decode cX8_insert 51 = .ok (.iastore, 1) := by decide +kernel
theorem dX8_insert_52 : decode cX8_insert 52 = .ok (.aload_n 0, 1) := by decide +kernel
theorem dX8_insert_53 : decode cX8_insert 53 = .ok (.getfield 18, 3) := by decide +kernel
theorem dX8_insert_56 : decode cX8_insert 56 = .ok (.iload 5, 2) := by decide +kernel
theorem dX8_insert_58 : decode cX8_insert 58 = .ok (.iload_n 3, 1) := by decide +kernel
theorem dX8_insert_59 : decode cX8_insert 59 = .ok (.iastore, 1) := by decide +kernel
theorem dX8_insert_60 : decode cX8_insert 60 = .ok (.aload_n 0, 1) := by decide +kernel
theorem dX8_insert_61 : decode cX8_insert 61 = .ok (.getfield 21, 3) := by decide +kernel
theorem dX8_insert_64 : decode cX8_insert 64 = .ok (.iload 5, 2) := by decide +kernel
theorem dX8_insert_66 : decode cX8_insert 66 = .ok (.iload 4, 2) := by decide +kernel
theorem dX8_insert_68 : decode cX8_insert 68 = .ok (.iastore, 1) := by decide +kernel
theorem dX8_insert_69 : decode cX8_insert 69 = .ok (.aload_n 0, 1) := by decide +kernel
theorem dX8_insert_70 : decode cX8_insert 70 = .ok (.getfield 24, 3) := by decide +kernel
theorem dX8_insert_73 : decode cX8_insert 73 = .ok (.iload 5, 2) := by decide +kernel
theorem dX8_insert_75 : decode cX8_insert 75 = .ok (.iconst 0, 1) := by decide +kernel
theorem dX8_insert_76 : decode cX8_insert 76 = .ok (.iastore, 1) := by decide +kernel
theorem dX8_insert_77 : decode cX8_insert 77 = .ok (.iload 5, 2) := by decide +kernel
theorem dX8_insert_79 : decode cX8_insert 79 = .ok (.ireturn, 1) := by decide +kernel
theorem dX8_delete_0 : decode cX8_delete 0 = .ok (.aload_n 0, 1) := by decide +kernel
theorem dX8_delete_1 : decode cX8_delete 1 = .ok (.iload_n 1, 1) := by decide +kernel
theorem dX8_delete_2 : decode cX8_delete 2 = .ok (.invokevirtual 40, 3) := by decide +kernel
theorem dX8_delete_5 : decode cX8_delete 5 = .ok (.ifCond .eq 21, 3) := by decide +kernel
theorem dX8_delete_8 : decode cX8_delete 8 = .ok (.aload_n 0, 1) := by decide +kernel
theorem dX8_delete_9 : decode cX8_delete 9 = .ok (.iload_n 1, 1) := by decide +kernel
theorem dX8_delete_10 : decode cX8_delete 10 = .ok (.iconst 1, 1) := by decide +kernel
theorem dX8_delete_11 : decode cX8_delete 11 = .ok (.iadd, 1) := by decide +kernel
theorem dX8_delete_12 : decode cX8_delete 12 = .ok (.iload_n 1, 1) := by decide +kernel
theorem dX8_delete_13 : decode cX8_delete 13 = .ok (.invokevirtual 52, 3) := by decide +kernel
theorem dX8_delete_16 : decode cX8_delete 16 = .ok (.aload_n 0, 1) := by decide +kernel
theorem dX8_delete_17 : decode cX8_delete 17 = .ok (.dup, 1) := by decide +kernel
theorem dX8_delete_18 : decode cX8_delete 18 = .ok (.getfield 36, 3) := by decide +kernel
theorem dX8_delete_21 : decode cX8_delete 21 = .ok (.iconst 1, 1) := by decide +kernel
theorem dX8_delete_22 : decode cX8_delete 22 = .ok (.isub, 1) := by decide +kernel
theorem dX8_delete_23 : decode cX8_delete 23 = .ok (.putfield 36, 3) := by decide +kernel
theorem dX8_delete_26 : decode cX8_delete 26 = .ok (.return_, 1) := by decide +kernel
theorem dX8_placeFor_0 : decode cX8_placeFor 0 = .ok (.iconst 0, 1) := by decide +kernel
theorem dX8_placeFor_1 : decode cX8_placeFor 1 = .ok (.istore_n 2, 1) := by decide +kernel
theorem dX8_placeFor_2 : decode cX8_placeFor 2 = .ok (.iload_n 2, 1) := by decide +kernel
theorem dX8_placeFor_3 : decode cX8_placeFor 3 = .ok (.aload_n 0, 1) := by decide +kernel
theorem dX8_placeFor_4 : decode cX8_placeFor 4 = .ok (.getfield 36, 3) := by decide +kernel
theorem dX8_placeFor_7 : decode cX8_placeFor 7 = .ok (.if_icmp .ge 25, 3) := by decide +kernel
theorem dX8_placeFor_10 : decode cX8_placeFor 10 = .ok (.iload_n 2, 1) := by decide +kernel
theorem dX8_placeFor_11 : decode cX8_placeFor 11 = .ok (.bipush 19, 2) := by decide +kernel
theorem dX8_placeFor_13 : decode cX8_placeFor 13 = .ok (.if_icmp .ge 19, 3) := by decide +kernel
theorem dX8_placeFor_16 : decode cX8_placeFor 16 = .ok (.aload_n 0, 1) := by decide +kernel
theorem dX8_placeFor_17 : decode cX8_placeFor 17 = .ok (.getfield 9, 3) := by decide +kernel
theorem dX8_placeFor_20 : decode cX8_placeFor 20 = .ok (.iload_n 2, 1) := by decide +kernel
theorem dX8_placeFor_21 : decode cX8_placeFor 21 = .ok (.iaload, 1) := by decide +kernel
theorem dX8_placeFor_22 : decode cX8_placeFor 22 = .ok (.iload_n 1, 1) := by decide +kernel
theorem dX8_placeFor_23 : decode cX8_placeFor 23 = .ok (.if_icmp .gt 9, 3) := by decide +kernel
theorem dX8_placeFor_26 : decode cX8_placeFor 26 = .ok (.iinc 2 1, 3) := by decide +kernel
theorem dX8_placeFor_29 : decode cX8_placeFor 29 = .ok (.goto (-27), 3) := by decide +kernel
theorem dX8_placeFor_32 : decode cX8_placeFor 32 = .ok (.iload_n 2, 1) := by decide +kernel
theorem dX8_placeFor_33 : decode cX8_placeFor 33 = .ok (.ireturn, 1) := by decide +kernel
theorem dX8_moveRows_0 : decode cX8_moveRows 0 = .ok (.aload_n 0, 1) := by decide +kernel
theorem dX8_moveRows_1 : decode cX8_moveRows 1 = .ok (.getfield 36, 3) := by decide +kernel
theorem dX8_moveRows_4 : decode cX8_moveRows 4 = .ok (.iload_n 1, 1) := by decide +kernel
theorem dX8_moveRows_5 : decode cX8_moveRows 5 = .ok (.isub, 1) := by decide +kernel
theorem dX8_moveRows_6 : decode cX8_moveRows 6 = .ok (.istore_n 3, 1) := by decide +kernel
theorem dX8_moveRows_7 : decode cX8_moveRows 7 = .ok (.iload_n 1, 1) := by decide +kernel
theorem dX8_moveRows_8 : decode cX8_moveRows 8 = .ok (.ifCond .lt 19, 3) := by decide +kernel
theorem dX8_moveRows_11 : decode cX8_moveRows 11 = .ok (.iload_n 2, 1) := by decide +kernel
theorem dX8_moveRows_12 : decode cX8_moveRows 12 = .ok (.ifCond .lt 15, 3) := by decide +kernel
theorem dX8_moveRows_15 : decode cX8_moveRows 15 = .ok (.iload_n 3, 1) := by decide +kernel
theorem dX8_moveRows_16 : decode cX8_moveRows 16 = .ok (.ifCond .lt 11, 3) := by decide +kernel
theorem dX8_moveRows_19 : decode cX8_moveRows 19 = .ok (.iload_n 2, 1) := by decide +kernel
theorem dX8_moveRows_20 : decode cX8_moveRows 20 = .ok (.iload_n 3, 1) := by decide +kernel
theorem dX8_moveRows_21 : decode cX8_moveRows 21 = .ok (.iadd, 1) := by decide +kernel
theorem dX8_moveRows_22 : decode cX8_moveRows 22 = .ok (.bipush 20, 2) := by decide +kernel
theorem dX8_moveRows_24 : decode cX8_moveRows 24 = .ok (.if_icmp .le 4, 3) := by decide +kernel
theorem dX8_moveRows_27 : decode cX8_moveRows 27 = .ok (.return_, 1) := by decide +kernel
theorem dX8_moveRows_28 : decode cX8_moveRows 28 = .ok (.aload_n 0, 1) := by decide +kernel
theorem dX8_moveRows_29 : decode cX8_moveRows 29 = .ok (.getfield 9, 3) := by decide +kernel
theorem dX8_moveRows_32 : decode cX8_moveRows 32 = .ok (.iload_n 1, 1) := by decide +kernel
theorem dX8_moveRows_33 : decode cX8_moveRows 33 = .ok (.aload_n 0, 1) := by decide +kernel
theorem dX8_moveRows_34 : decode cX8_moveRows 34 = .ok (.getfield 9, 3) := by decide +kernel
theorem dX8_moveRows_37 : decode cX8_moveRows 37 = .ok (.iload_n 2, 1) := by decide +kernel
theorem dX8_moveRows_38 : decode cX8_moveRows 38 = .ok (.iload_n 3, 1) := by decide +kernel
theorem dX8_moveRows_39 : decode cX8_moveRows 39 = .ok (.invokestatic 30, 3) := by decide +kernel
theorem dX8_moveRows_42 : decode cX8_moveRows 42 = .ok (.aload_n 0, 1) := by decide +kernel
theorem dX8_moveRows_43 : decode cX8_moveRows 43 = .ok (.getfield 15, 3) := by decide +kernel
theorem dX8_moveRows_46 : decode cX8_moveRows 46 = .ok (.iload_n 1, 1) := by decide +kernel
theorem dX8_moveRows_47 : decode cX8_moveRows 47 = .ok (.aload_n 0, 1) := by decide +kernel
theorem dX8_moveRows_48 : decode cX8_moveRows 48 = .ok (.getfield 15, 3) := by decide +kernel
theorem dX8_moveRows_51 : decode cX8_moveRows 51 = .ok (.iload_n 2, 1) := by decide +kernel
theorem dX8_moveRows_52 : decode cX8_moveRows 52 = .ok (.iload_n 3, 1) := by decide +kernel
theorem dX8_moveRows_53 : decode cX8_moveRows 53 = .ok (.invokestatic 30, 3) := by decide +kernel
theorem dX8_moveRows_56 : decode cX8_moveRows 56 = .ok (.aload_n 0, 1) := by decide +kernel
theorem dX8_moveRows_57 : decode cX8_moveRows 57 = .ok (.getfield 18, 3) := by decide +kernel
theorem dX8_moveRows_60 : decode cX8_moveRows 60 = .ok (.iload_n 1, 1) := by decide +kernel
theorem dX8_moveRows_61 : decode cX8_moveRows 61 = .ok (.aload_n 0, 1) := by decide +kernel
theorem dX8_moveRows_62 : decode cX8_moveRows 62 = .ok (.getfield 18, 3) := by decide +kernel
theorem dX8_moveRows_65 : decode cX8_moveRows 65 = .ok (.iload_n 2, 1) := by decide +kernel
theorem dX8_moveRows_66 : decode cX8_moveRows 66 = .ok (.iload_n 3, 1) := by decide +kernel
theorem dX8_moveRows_67 : decode cX8_moveRows 67 = .ok (.invokestatic 30, 3) := by decide +kernel
theorem dX8_moveRows_70 : decode cX8_moveRows 70 = .ok (.aload_n 0, 1) := by decide +kernel
theorem dX8_moveRows_71 : decode cX8_moveRows 71 = .ok (.getfield 21, 3) := by decide +kernel
theorem dX8_moveRows_74 : decode cX8_moveRows 74 = .ok (.iload_n 1, 1) := by decide +kernel
theorem dX8_moveRows_75 : decode cX8_moveRows 75 = .ok (.aload_n 0, 1) := by decide +kernel
theorem dX8_moveRows_76 : decode cX8_moveRows 76 = .ok (.getfield 21, 3) := by decide +kernel
theorem dX8_moveRows_79 : decode cX8_moveRows 79 = .ok (.iload_n 2, 1) := by decide +kernel
theorem dX8_moveRows_80 : decode cX8_moveRows 80 = .ok (.iload_n 3, 1) := by decide +kernel
theorem dX8_moveRows_81 : decode cX8_moveRows 81 = .ok (.invokestatic 30, 3) := by decide +kernel
theorem dX8_moveRows_84 : decode cX8_moveRows 84 = .ok (.aload_n 0, 1) := by decide +kernel
theorem dX8_moveRows_85 : decode cX8_moveRows 85 = .ok (.getfield 24, 3) := by decide +kernel
theorem dX8_moveRows_88 : decode cX8_moveRows 88 = .ok (.iload_n 1, 1) := by decide +kernel
theorem dX8_moveRows_89 : decode cX8_moveRows 89 = .ok (.aload_n 0, 1) := by decide +kernel
theorem dX8_moveRows_90 : decode cX8_moveRows 90 = .ok (.getfield 24, 3) := by decide +kernel
theorem dX8_moveRows_93 : decode cX8_moveRows 93 = .ok (.iload_n 2, 1) := by decide +kernel
theorem dX8_moveRows_94 : decode cX8_moveRows 94 = .ok (.iload_n 3, 1) := by decide +kernel
theorem dX8_moveRows_95 : decode cX8_moveRows 95 = .ok (.invokestatic 30, 3) := by decide +kernel
theorem dX8_moveRows_98 : decode cX8_moveRows 98 = .ok (.aload_n 0, 1) := by decide +kernel
theorem dX8_moveRows_99 : decode cX8_moveRows 99 = .ok (.getfield 27, 3) := by decide +kernel
theorem dX8_moveRows_102 : decode cX8_moveRows 102 = .ok (.iload_n 1, 1) := by decide +kernel
theorem dX8_moveRows_103 : decode cX8_moveRows 103 = .ok (.bipush 8, 2) := by decide +kernel
theorem dX8_moveRows_105 : decode cX8_moveRows 105 = .ok (.imul, 1) := by decide +kernel
theorem dX8_moveRows_106 : decode cX8_moveRows 106 = .ok (.aload_n 0, 1) := by decide +kernel
theorem dX8_moveRows_107 : decode cX8_moveRows 107 = .ok (.getfield 27, 3) := by decide +kernel
theorem dX8_moveRows_110 : decode cX8_moveRows 110 = .ok (.iload_n 2, 1) := by decide +kernel
theorem dX8_moveRows_111 : decode cX8_moveRows 111 = .ok (.bipush 8, 2) := by decide +kernel
theorem dX8_moveRows_113 : decode cX8_moveRows 113 = .ok (.imul, 1) := by decide +kernel
theorem dX8_moveRows_114 : decode cX8_moveRows 114 = .ok (.iload_n 3, 1) := by decide +kernel
theorem dX8_moveRows_115 : decode cX8_moveRows 115 = .ok (.bipush 8, 2) := by decide +kernel
theorem dX8_moveRows_117 : decode cX8_moveRows 117 = .ok (.imul, 1) := by decide +kernel
theorem dX8_moveRows_118 : decode cX8_moveRows 118 = .ok (.invokestatic 30, 3) := by decide +kernel
theorem dX8_moveRows_121 : decode cX8_moveRows 121 = .ok (.return_, 1) := by decide +kernel
theorem dX8_endAt_0 : decode cX8_endAt 0 = .ok (.aload_n 0, 1) := by decide +kernel
theorem dX8_endAt_1 : decode cX8_endAt 1 = .ok (.iload_n 1, 1) := by decide +kernel
theorem dX8_endAt_2 : decode cX8_endAt 2 = .ok (.invokevirtual 40, 3) := by decide +kernel
theorem dX8_endAt_5 : decode cX8_endAt 5 = .ok (.ifCond .eq 10, 3) := by decide +kernel
theorem dX8_endAt_8 : decode cX8_endAt 8 = .ok (.aload_n 0, 1) := by decide +kernel
theorem dX8_endAt_9 : decode cX8_endAt 9 = .ok (.getfield 15, 3) := by decide +kernel
theorem dX8_endAt_12 : decode cX8_endAt 12 = .ok (.iload_n 1, 1) := by decide +kernel
theorem dX8_endAt_13 : decode cX8_endAt 13 = .ok (.iload_n 2, 1) := by decide +kernel
theorem dX8_endAt_14 : decode cX8_endAt 14 = .ok (.iastore, 1) := by decide +kernel
theorem dX8_endAt_15 : decode cX8_endAt 15 = .ok (.return_, 1) := by decide +kernel
theorem dX8_own_0 : decode cX8_own 0 = .ok (.aload_n 0, 1) := by decide +kernel
theorem dX8_own_1 : decode cX8_own 1 = .ok (.iload_n 1, 1) := by decide +kernel
theorem dX8_own_2 : decode cX8_own 2 = .ok (.invokevirtual 40, 3) := by decide +kernel
theorem dX8_own_5 : decode cX8_own 5 = .ok (.ifCond .eq 10, 3) := by decide +kernel
theorem dX8_own_8 : decode cX8_own 8 = .ok (.aload_n 0, 1) := by decide +kernel
theorem dX8_own_9 : decode cX8_own 9 = .ok (.getfield 21, 3) := by decide +kernel
theorem dX8_own_12 : decode cX8_own 12 = .ok (.iload_n 1, 1) := by decide +kernel
theorem dX8_own_13 : decode cX8_own 13 = .ok (.iload_n 2, 1) := by decide +kernel
theorem dX8_own_14 : decode cX8_own 14 = .ok (.iastore, 1) := by decide +kernel
theorem dX8_own_15 : decode cX8_own 15 = .ok (.return_, 1) := by decide +kernel
theorem dX8_isFullOfTerms_0 : decode cX8_isFullOfTerms 0 = .ok (.aload_n 0, 1) := by decide +kernel
theorem dX8_isFullOfTerms_1 : decode cX8_isFullOfTerms 1 = .ok (.iload_n 1, 1) := by decide +kernel
theorem dX8_isFullOfTerms_2 : decode cX8_isFullOfTerms 2 = .ok (.invokevirtual 56, 3) := by decide +kernel
theorem dX8_isFullOfTerms_5 : decode cX8_isFullOfTerms 5 = .ok (.bipush 8, 2) := by decide +kernel
theorem dX8_isFullOfTerms_7 : decode cX8_isFullOfTerms 7 = .ok (.if_icmp .lt 7, 3) := by decide +kernel
theorem dX8_isFullOfTerms_10 : decode cX8_isFullOfTerms 10 = .ok (.iconst 1, 1) := by decide +kernel
theorem dX8_isFullOfTerms_11 : decode cX8_isFullOfTerms 11 = .ok (.goto 4, 3) := by decide +kernel
theorem dX8_isFullOfTerms_14 : decode cX8_isFullOfTerms 14 = .ok (.iconst 0, 1) := by decide +kernel
theorem dX8_isFullOfTerms_15 : decode cX8_isFullOfTerms 15 = .ok (.ireturn, 1) := by decide +kernel
theorem dX8_appendTerm_0 : decode cX8_appendTerm 0 = .ok (.aload_n 0, 1) := by decide +kernel
theorem dX8_appendTerm_1 : decode cX8_appendTerm 1 = .ok (.iload_n 1, 1) := by decide +kernel
theorem dX8_appendTerm_2 : decode cX8_appendTerm 2 = .ok (.invokevirtual 40, 3) := by decide +kernel
theorem dX8_appendTerm_5 : decode cX8_appendTerm 5 = .ok (.ifCond .eq 41, 3) := by decide +kernel
theorem dX8_appendTerm_8 : decode cX8_appendTerm 8 = .ok (.aload_n 0, 1) := by decide +kernel
theorem dX8_appendTerm_9 : decode cX8_appendTerm 9 = .ok (.getfield 24, 3) := by decide +kernel
theorem dX8_appendTerm_12 : decode cX8_appendTerm 12 = .ok (.iload_n 1, 1) := by decide +kernel
theorem dX8_appendTerm_13 : decode cX8_appendTerm 13 = .ok (.iaload, 1) := by decide +kernel
theorem dX8_appendTerm_14 : decode cX8_appendTerm 14 = .ok (.bipush 8, 2) := by decide +kernel
theorem dX8_appendTerm_16 : decode cX8_appendTerm 16 = .ok (.if_icmp .ge 30, 3) := by decide +kernel
theorem dX8_appendTerm_19 : decode cX8_appendTerm 19 = .ok (.aload_n 0, 1) := by decide +kernel
theorem dX8_appendTerm_20 : decode cX8_appendTerm 20 = .ok (.getfield 27, 3) := by decide +kernel
theorem dX8_appendTerm_23 : decode cX8_appendTerm 23 = .ok (.iload_n 1, 1) := by decide +kernel
theorem dX8_appendTerm_24 : decode cX8_appendTerm 24 = .ok (.bipush 8, 2) := by decide +kernel
theorem dX8_appendTerm_26 : decode cX8_appendTerm 26 = .ok (.imul, 1) := by decide +kernel
theorem dX8_appendTerm_27 : decode cX8_appendTerm 27 = .ok (.aload_n 0, 1) := by decide +kernel
theorem dX8_appendTerm_28 : decode cX8_appendTerm 28 = .ok (.getfield 24, 3) := by decide +kernel
theorem dX8_appendTerm_31 : decode cX8_appendTerm 31 = .ok (.iload_n 1, 1) := by decide +kernel
theorem dX8_appendTerm_32 : decode cX8_appendTerm 32 = .ok (.iaload, 1) := by decide +kernel
theorem dX8_appendTerm_33 : decode cX8_appendTerm 33 = .ok (.iadd, 1) := by decide +kernel
theorem dX8_appendTerm_34 : decode cX8_appendTerm 34 = .ok (.iload_n 2, 1) := by decide +kernel
theorem dX8_appendTerm_35 : decode cX8_appendTerm 35 = .ok (.iastore, 1) := by decide +kernel
theorem dX8_appendTerm_36 : decode cX8_appendTerm 36 = .ok (.aload_n 0, 1) := by decide +kernel
theorem dX8_appendTerm_37 : decode cX8_appendTerm 37 = .ok (.getfield 24, 3) := by decide +kernel
theorem dX8_appendTerm_40 : decode cX8_appendTerm 40 = .ok (.iload_n 1, 1) := by decide +kernel
theorem dX8_appendTerm_41 : decode cX8_appendTerm 41 = .ok (.dup2, 1) := by decide +kernel
theorem dX8_appendTerm_42 : decode cX8_appendTerm 42 = .ok (.iaload, 1) := by decide +kernel
theorem dX8_appendTerm_43 : decode cX8_appendTerm 43 = .ok (.iconst 1, 1) := by decide +kernel
theorem dX8_appendTerm_44 : decode cX8_appendTerm 44 = .ok (.iadd, 1) := by decide +kernel
theorem dX8_appendTerm_45 : decode cX8_appendTerm 45 = .ok (.iastore, 1) := by decide +kernel
theorem dX8_appendTerm_46 : decode cX8_appendTerm 46 = .ok (.return_, 1) := by decide +kernel
theorem dX8_passTerms_0 : decode cX8_passTerms 0 = .ok (.aload_n 0, 1) := by decide +kernel
theorem dX8_passTerms_1 : decode cX8_passTerms 1 = .ok (.iload_n 1, 1) := by decide +kernel
theorem dX8_passTerms_2 : decode cX8_passTerms 2 = .ok (.invokevirtual 40, 3) := by decide +kernel
theorem dX8_passTerms_5 : decode cX8_passTerms 5 = .ok (.ifCond .eq 17, 3) := by decide +kernel
theorem dX8_passTerms_8 : decode cX8_passTerms 8 = .ok (.iload_n 2, 1) := by decide +kernel
theorem dX8_passTerms_9 : decode cX8_passTerms 9 = .ok (.iconst 0, 1) := by decide +kernel
theorem dX8_passTerms_10 : decode cX8_passTerms 10 = .ok (.aload_n 0, 1) := by decide +kernel
theorem dX8_passTerms_11 : decode cX8_passTerms 11 = .ok (.getfield 24, 3) := by decide +kernel
theorem dX8_passTerms_14 : decode cX8_passTerms 14 = .ok (.iload_n 1, 1) := by decide +kernel
theorem dX8_passTerms_15 : decode cX8_passTerms 15 = .ok (.iaload, 1) := by decide +kernel
theorem dX8_passTerms_16 : decode cX8_passTerms 16 = .ok (.invokestatic 59, 3) := by decide +kernel
theorem dX8_passTerms_19 : decode cX8_passTerms 19 = .ok (.ifCond .ne 4, 3) := by decide +kernel
theorem dX8_passTerms_22 : decode cX8_passTerms 22 = .ok (.return_, 1) := by decide +kernel
theorem dX8_passTerms_23 : decode cX8_passTerms 23 = .ok (.iload_n 2, 1) := by decide +kernel
theorem dX8_passTerms_24 : decode cX8_passTerms 24 = .ok (.istore 4, 2) := by decide +kernel
theorem dX8_passTerms_26 : decode cX8_passTerms 26 = .ok (.iload 4, 2) := by decide +kernel
theorem dX8_passTerms_28 : decode cX8_passTerms 28 = .ok (.aload_n 0, 1) := by decide +kernel
theorem dX8_passTerms_29 : decode cX8_passTerms 29 = .ok (.getfield 24, 3) := by decide +kernel
theorem dX8_passTerms_32 : decode cX8_passTerms 32 = .ok (.iload_n 1, 1) := by decide +kernel
theorem dX8_passTerms_33 : decode cX8_passTerms 33 = .ok (.iaload, 1) := by decide +kernel
theorem dX8_passTerms_34 : decode cX8_passTerms 34 = .ok (.if_icmp .ge 21, 3) := by decide +kernel
theorem dX8_passTerms_37 : decode cX8_passTerms 37 = .ok (.aload_n 0, 1) := by decide +kernel
theorem dX8_passTerms_38 : decode cX8_passTerms 38 = .ok (.iload_n 3, 1) := by decide +kernel
theorem dX8_passTerms_39 : decode cX8_passTerms 39 = .ok (.aload_n 0, 1) := by decide +kernel
theorem dX8_passTerms_40 : decode cX8_passTerms 40 = .ok (.iload_n 1, 1) := by decide +kernel
theorem dX8_passTerms_41 : decode cX8_passTerms 41 = .ok (.iload 4, 2) := by decide +kernel
theorem dX8_passTerms_43 : decode cX8_passTerms 43 = .ok (.invokevirtual 63, 3) := by decide +kernel
theorem dX8_passTerms_46 : decode cX8_passTerms 46 = .ok (.invokevirtual 67, 3) := by decide +kernel
theorem dX8_passTerms_49 : decode cX8_passTerms 49 = .ok (.iinc 4 1, 3) := by decide +kernel
theorem dX8_passTerms_52 : decode cX8_passTerms 52 = .ok (.goto (-26), 3) := by decide +kernel
theorem dX8_passTerms_55 : decode cX8_passTerms 55 = .ok (.aload_n 0, 1) := by decide +kernel
theorem dX8_passTerms_56 : decode cX8_passTerms 56 = .ok (.getfield 24, 3) := by decide +kernel
theorem dX8_passTerms_59 : decode cX8_passTerms 59 = .ok (.iload_n 1, 1) := by decide +kernel
theorem dX8_passTerms_60 : decode cX8_passTerms 60 = .ok (.iload_n 2, 1) := by decide +kernel
theorem dX8_passTerms_61 : decode cX8_passTerms 61 = .ok (.iastore, 1) := by decide +kernel
theorem dX8_passTerms_62 : decode cX8_passTerms 62 = .ok (.return_, 1) := by decide +kernel
theorem dX8_passTurns_0 : decode cX8_passTurns 0 = .ok (.iconst 0, 1) := by decide +kernel
theorem dX8_passTurns_1 : decode cX8_passTurns 1 = .ok (.istore_n 3, 1) := by decide +kernel
theorem dX8_passTurns_2 : decode cX8_passTurns 2 = .ok (.iload_n 3, 1) := by decide +kernel
theorem dX8_passTurns_3 : decode cX8_passTurns 3 = .ok (.aload_n 0, 1) := by decide +kernel
theorem dX8_passTurns_4 : decode cX8_passTurns 4 = .ok (.getfield 36, 3) := by decide +kernel
theorem dX8_passTurns_7 : decode cX8_passTurns 7 = .ok (.if_icmp .ge 32, 3) := by decide +kernel
theorem dX8_passTurns_10 : decode cX8_passTurns 10 = .ok (.iload_n 3, 1) := by decide +kernel
theorem dX8_passTurns_11 : decode cX8_passTurns 11 = .ok (.bipush 20, 2) := by decide +kernel
theorem dX8_passTurns_13 : decode cX8_passTurns 13 = .ok (.if_icmp .ge 26, 3) := by decide +kernel
theorem dX8_passTurns_16 : decode cX8_passTurns 16 = .ok (.aload_n 0, 1) := by decide +kernel
theorem dX8_passTurns_17 : decode cX8_passTurns 17 = .ok (.getfield 21, 3) := by decide +kernel
theorem dX8_passTurns_20 : decode cX8_passTurns 20 = .ok (.iload_n 3, 1) := by decide +kernel
theorem dX8_passTurns_21 : decode cX8_passTurns 21 = .ok (.iaload, 1) := by decide +kernel
theorem dX8_passTurns_22 : decode cX8_passTurns 22 = .ok (.iload_n 1, 1) := by decide +kernel
theorem dX8_passTurns_23 : decode cX8_passTurns 23 = .ok (.if_icmp .ne 10, 3) := by decide +kernel
theorem dX8_passTurns_26 : decode cX8_passTurns 26 = .ok (.aload_n 0, 1) := by decide +kernel
theorem dX8_passTurns_27 : decode cX8_passTurns 27 = .ok (.getfield 21, 3) := by decide +kernel
theorem dX8_passTurns_30 : decode cX8_passTurns 30 = .ok (.iload_n 3, 1) := by decide +kernel
theorem dX8_passTurns_31 : decode cX8_passTurns 31 = .ok (.iload_n 2, 1) := by decide +kernel
theorem dX8_passTurns_32 : decode cX8_passTurns 32 = .ok (.iastore, 1) := by decide +kernel
theorem dX8_passTurns_33 : decode cX8_passTurns 33 = .ok (.iinc 3 1, 3) := by decide +kernel
theorem dX8_passTurns_36 : decode cX8_passTurns 36 = .ok (.goto (-34), 3) := by decide +kernel
theorem dX8_passTurns_39 : decode cX8_passTurns 39 = .ok (.return_, 1) := by decide +kernel
theorem dX8_placesInAll_0 : decode cX8_placesInAll 0 = .ok (.iconst 0, 1) := by decide +kernel
theorem dX8_placesInAll_1 : decode cX8_placesInAll 1 = .ok (.istore_n 1, 1) := by decide +kernel
theorem dX8_placesInAll_2 : decode cX8_placesInAll 2 = .ok (.iconst 0, 1) := by decide +kernel
theorem dX8_placesInAll_3 : decode cX8_placesInAll 3 = .ok (.istore_n 2, 1) := by decide +kernel
theorem dX8_placesInAll_4 : decode cX8_placesInAll 4 = .ok (.iload_n 2, 1) := by decide +kernel
theorem dX8_placesInAll_5 : decode cX8_placesInAll 5 = .ok (.aload_n 0, 1) := by decide +kernel
theorem dX8_placesInAll_6 : decode cX8_placesInAll 6 = .ok (.getfield 36, 3) := by decide +kernel
theorem dX8_placesInAll_9 : decode cX8_placesInAll 9 = .ok (.if_icmp .ge 17, 3) := by decide +kernel
theorem dX8_placesInAll_12 : decode cX8_placesInAll 12 = .ok (.iload_n 1, 1) := by decide +kernel
theorem dX8_placesInAll_13 : decode cX8_placesInAll 13 = .ok (.aload_n 0, 1) := by decide +kernel
theorem dX8_placesInAll_14 : decode cX8_placesInAll 14 = .ok (.iload_n 2, 1) := by decide +kernel
theorem dX8_placesInAll_15 : decode cX8_placesInAll 15 = .ok (.invokevirtual 56, 3) := by decide +kernel
theorem dX8_placesInAll_18 : decode cX8_placesInAll 18 = .ok (.iadd, 1) := by decide +kernel
theorem dX8_placesInAll_19 : decode cX8_placesInAll 19 = .ok (.istore_n 1, 1) := by decide +kernel
theorem dX8_placesInAll_20 : decode cX8_placesInAll 20 = .ok (.iinc 2 1, 3) := by decide +kernel
theorem dX8_placesInAll_23 : decode cX8_placesInAll 23 = .ok (.goto (-19), 3) := by decide +kernel
theorem dX8_placesInAll_26 : decode cX8_placesInAll 26 = .ok (.iload_n 1, 1) := by decide +kernel
theorem dX8_placesInAll_27 : decode cX8_placesInAll 27 = .ok (.ireturn, 1) := by decide +kernel
theorem dX8_turnsOf_0 : decode cX8_turnsOf 0 = .ok (.iconst 0, 1) := by decide +kernel
theorem dX8_turnsOf_1 : decode cX8_turnsOf 1 = .ok (.istore_n 2, 1) := by decide +kernel
theorem dX8_turnsOf_2 : decode cX8_turnsOf 2 = .ok (.iconst 0, 1) := by decide +kernel
theorem dX8_turnsOf_3 : decode cX8_turnsOf 3 = .ok (.istore_n 3, 1) := by decide +kernel
theorem dX8_turnsOf_4 : decode cX8_turnsOf 4 = .ok (.iload_n 3, 1) := by decide +kernel
theorem dX8_turnsOf_5 : decode cX8_turnsOf 5 = .ok (.aload_n 0, 1) := by decide +kernel
theorem dX8_turnsOf_6 : decode cX8_turnsOf 6 = .ok (.getfield 36, 3) := by decide +kernel
theorem dX8_turnsOf_9 : decode cX8_turnsOf 9 = .ok (.if_icmp .ge 28, 3) := by decide +kernel
theorem dX8_turnsOf_12 : decode cX8_turnsOf 12 = .ok (.iload_n 3, 1) := by decide +kernel
theorem dX8_turnsOf_13 : decode cX8_turnsOf 13 = .ok (.bipush 20, 2) := by decide +kernel
theorem dX8_turnsOf_15 : decode cX8_turnsOf 15 = .ok (.if_icmp .ge 22, 3) := by decide +kernel
theorem dX8_turnsOf_18 : decode cX8_turnsOf 18 = .ok (.aload_n 0, 1) := by decide +kernel
theorem dX8_turnsOf_19 : decode cX8_turnsOf 19 = .ok (.getfield 21, 3) := by decide +kernel
theorem dX8_turnsOf_22 : decode cX8_turnsOf 22 = .ok (.iload_n 3, 1) := by decide +kernel
theorem dX8_turnsOf_23 : decode cX8_turnsOf 23 = .ok (.iaload, 1) := by decide +kernel
theorem dX8_turnsOf_24 : decode cX8_turnsOf 24 = .ok (.iload_n 1, 1) := by decide +kernel
theorem dX8_turnsOf_25 : decode cX8_turnsOf 25 = .ok (.if_icmp .ne 6, 3) := by decide +kernel
theorem dX8_turnsOf_28 : decode cX8_turnsOf 28 = .ok (.iinc 2 1, 3) := by decide +kernel
theorem dX8_turnsOf_31 : decode cX8_turnsOf 31 = .ok (.iinc 3 1, 3) := by decide +kernel
theorem dX8_turnsOf_34 : decode cX8_turnsOf 34 = .ok (.goto (-30), 3) := by decide +kernel
theorem dX8_turnsOf_37 : decode cX8_turnsOf 37 = .ok (.iload_n 2, 1) := by decide +kernel
theorem dX8_turnsOf_38 : decode cX8_turnsOf 38 = .ok (.ireturn, 1) := by decide +kernel
theorem dX8_meanPitchOf_0 : decode cX8_meanPitchOf 0 = .ok (.aload_n 0, 1) := by decide +kernel
theorem dX8_meanPitchOf_1 : decode cX8_meanPitchOf 1 = .ok (.iload_n 1, 1) := by decide +kernel
theorem dX8_meanPitchOf_2 : decode cX8_meanPitchOf 2 = .ok (.invokevirtual 70, 3) := by decide +kernel
theorem dX8_meanPitchOf_5 : decode cX8_meanPitchOf 5 = .ok (.istore_n 3, 1) := by decide +kernel
theorem dX8_meanPitchOf_6 : decode cX8_meanPitchOf 6 = .ok (.iload_n 3, 1) := by decide +kernel
theorem dX8_meanPitchOf_7 : decode cX8_meanPitchOf 7 = .ok (.ifCond .le 17, 3) := by decide +kernel
theorem dX8_meanPitchOf_10 : decode cX8_meanPitchOf 10 = .ok (.aload_n 0, 1) := by decide +kernel
theorem dX8_meanPitchOf_11 : decode cX8_meanPitchOf 11 = .ok (.aload_n 0, 1) := by decide +kernel
theorem dX8_meanPitchOf_12 : decode cX8_meanPitchOf 12 = .ok (.getfield 18, 3) := by decide +kernel
theorem dX8_meanPitchOf_15 : decode cX8_meanPitchOf 15 = .ok (.iload_n 1, 1) := by decide +kernel
theorem dX8_meanPitchOf_16 : decode cX8_meanPitchOf 16 = .ok (.invokevirtual 73, 3) := by decide +kernel
theorem dX8_meanPitchOf_19 : decode cX8_meanPitchOf 19 = .ok (.iload_n 3, 1) := by decide +kernel
theorem dX8_meanPitchOf_20 : decode cX8_meanPitchOf 20 = .ok (.idiv, 1) := by decide +kernel
theorem dX8_meanPitchOf_21 : decode cX8_meanPitchOf 21 = .ok (.goto 4, 3) := by decide +kernel
theorem dX8_meanPitchOf_24 : decode cX8_meanPitchOf 24 = .ok (.iload_n 2, 1) := by decide +kernel
theorem dX8_meanPitchOf_25 : decode cX8_meanPitchOf 25 = .ok (.ireturn, 1) := by decide +kernel
theorem dX8_secondsOfAll_0 : decode cX8_secondsOfAll 0 = .ok (.aload_n 0, 1) := by decide +kernel
theorem dX8_secondsOfAll_1 : decode cX8_secondsOfAll 1 = .ok (.aload_n 0, 1) := by decide +kernel
theorem dX8_secondsOfAll_2 : decode cX8_secondsOfAll 2 = .ok (.getfield 15, 3) := by decide +kernel
theorem dX8_secondsOfAll_5 : decode cX8_secondsOfAll 5 = .ok (.iload_n 1, 1) := by decide +kernel
theorem dX8_secondsOfAll_6 : decode cX8_secondsOfAll 6 = .ok (.invokevirtual 73, 3) := by decide +kernel
theorem dX8_secondsOfAll_9 : decode cX8_secondsOfAll 9 = .ok (.aload_n 0, 1) := by decide +kernel
theorem dX8_secondsOfAll_10 : decode cX8_secondsOfAll 10 = .ok (.aload_n 0, 1) := by decide +kernel
theorem dX8_secondsOfAll_11 : decode cX8_secondsOfAll 11 = .ok (.getfield 9, 3) := by decide +kernel
theorem dX8_secondsOfAll_14 : decode cX8_secondsOfAll 14 = .ok (.iload_n 1, 1) := by decide +kernel
theorem dX8_secondsOfAll_15 : decode cX8_secondsOfAll 15 = .ok (.invokevirtual 73, 3) := by decide +kernel
theorem dX8_secondsOfAll_18 : decode cX8_secondsOfAll 18 = .ok (.isub, 1) := by decide +kernel
theorem dX8_secondsOfAll_19 : decode cX8_secondsOfAll 19 = .ok (.ireturn, 1) := by decide +kernel
theorem dX8_termsOfAll_0 : decode cX8_termsOfAll 0 = .ok (.aload_n 0, 1) := by decide +kernel
theorem dX8_termsOfAll_1 : decode cX8_termsOfAll 1 = .ok (.aload_n 0, 1) := by decide +kernel
theorem dX8_termsOfAll_2 : decode cX8_termsOfAll 2 = .ok (.getfield 24, 3) := by decide +kernel
theorem dX8_termsOfAll_5 : decode cX8_termsOfAll 5 = .ok (.iload_n 1, 1) := by decide +kernel
theorem dX8_termsOfAll_6 : decode cX8_termsOfAll 6 = .ok (.invokevirtual 73, 3) := by decide +kernel
theorem dX8_termsOfAll_9 : decode cX8_termsOfAll 9 = .ok (.ireturn, 1) := by decide +kernel
theorem dX8_sumOf_0 : decode cX8_sumOf 0 = .ok (.iconst 0, 1) := by decide +kernel
theorem dX8_sumOf_1 : decode cX8_sumOf 1 = .ok (.istore_n 3, 1) := by decide +kernel
theorem dX8_sumOf_2 : decode cX8_sumOf 2 = .ok (.iconst 0, 1) := by decide +kernel
theorem dX8_sumOf_3 : decode cX8_sumOf 3 = .ok (.istore 4, 2) := by decide +kernel
theorem dX8_sumOf_5 : decode cX8_sumOf 5 = .ok (.iload 4, 2) := by decide +kernel
theorem dX8_sumOf_7 : decode cX8_sumOf 7 = .ok (.aload_n 0, 1) := by decide +kernel
theorem dX8_sumOf_8 : decode cX8_sumOf 8 = .ok (.getfield 36, 3) := by decide +kernel
theorem dX8_sumOf_11 : decode cX8_sumOf 11 = .ok (.if_icmp .ge 41, 3) := by decide +kernel
theorem dX8_sumOf_14 : decode cX8_sumOf 14 = .ok (.iload 4, 2) := by decide +kernel
theorem dX8_sumOf_16 : decode cX8_sumOf 16 = .ok (.bipush 20, 2) := by decide +kernel
theorem dX8_sumOf_18 : decode cX8_sumOf 18 = .ok (.if_icmp .ge 34, 3) := by decide +kernel
theorem dX8_sumOf_21 : decode cX8_sumOf 21 = .ok (.iload 4, 2) := by decide +kernel
theorem dX8_sumOf_23 : decode cX8_sumOf 23 = .ok (.aload_n 1, 1) := by decide +kernel
theorem dX8_sumOf_24 : decode cX8_sumOf 24 = .ok (.arraylength, 1) := by decide +kernel
theorem dX8_sumOf_25 : decode cX8_sumOf 25 = .ok (.if_icmp .ge 27, 3) := by decide +kernel
theorem dX8_sumOf_28 : decode cX8_sumOf 28 = .ok (.aload_n 0, 1) := by decide +kernel
theorem dX8_sumOf_29 : decode cX8_sumOf 29 = .ok (.getfield 21, 3) := by decide +kernel
theorem dX8_sumOf_32 : decode cX8_sumOf 32 = .ok (.iload 4, 2) := by decide +kernel
theorem dX8_sumOf_34 : decode cX8_sumOf 34 = .ok (.iaload, 1) := by decide +kernel
theorem dX8_sumOf_35 : decode cX8_sumOf 35 = .ok (.iload_n 2, 1) := by decide +kernel
theorem dX8_sumOf_36 : decode cX8_sumOf 36 = .ok (.if_icmp .ne 10, 3) := by decide +kernel
theorem dX8_sumOf_39 : decode cX8_sumOf 39 = .ok (.iload_n 3, 1) := by decide +kernel
theorem dX8_sumOf_40 : decode cX8_sumOf 40 = .ok (.aload_n 1, 1) := by decide +kernel
theorem dX8_sumOf_41 : decode cX8_sumOf 41 = .ok (.iload 4, 2) := by decide +kernel
theorem dX8_sumOf_43 : decode cX8_sumOf 43 = .ok (.iaload, 1) := by decide +kernel
theorem dX8_sumOf_44 : decode cX8_sumOf 44 = .ok (.iadd, 1) := by decide +kernel
theorem dX8_sumOf_45 : decode cX8_sumOf 45 = .ok (.istore_n 3, 1) := by decide +kernel
theorem dX8_sumOf_46 : decode cX8_sumOf 46 = .ok (.iinc 4 1, 3) := by decide +kernel
theorem dX8_sumOf_49 : decode cX8_sumOf 49 = .ok (.goto (-44), 3) := by decide +kernel
theorem dX8_sumOf_52 : decode cX8_sumOf 52 = .ok (.iload_n 3, 1) := by decide +kernel
theorem dX8_sumOf_53 : decode cX8_sumOf 53 = .ok (.ireturn, 1) := by decide +kernel
theorem dX8_timesTold_0 : decode cX8_timesTold 0 = .ok (.iconst 0, 1) := by decide +kernel
theorem dX8_timesTold_1 : decode cX8_timesTold 1 = .ok (.istore_n 2, 1) := by decide +kernel
theorem dX8_timesTold_2 : decode cX8_timesTold 2 = .ok (.iconst 0, 1) := by decide +kernel
theorem dX8_timesTold_3 : decode cX8_timesTold 3 = .ok (.istore_n 3, 1) := by decide +kernel
theorem dX8_timesTold_4 : decode cX8_timesTold 4 = .ok (.iload_n 3, 1) := by decide +kernel
theorem dX8_timesTold_5 : decode cX8_timesTold 5 = .ok (.aload_n 0, 1) := by decide +kernel
theorem dX8_timesTold_6 : decode cX8_timesTold 6 = .ok (.getfield 36, 3) := by decide +kernel
theorem dX8_timesTold_9 : decode cX8_timesTold 9 = .ok (.if_icmp .ge 61, 3) := by decide +kernel
theorem dX8_timesTold_12 : decode cX8_timesTold 12 = .ok (.iload_n 3, 1) := by decide +kernel
theorem dX8_timesTold_13 : decode cX8_timesTold 13 = .ok (.bipush 20, 2) := by decide +kernel
theorem dX8_timesTold_15 : decode cX8_timesTold 15 = .ok (.if_icmp .ge 55, 3) := by decide +kernel
theorem dX8_timesTold_18 : decode cX8_timesTold 18 = .ok (.iconst 0, 1) := by decide +kernel
theorem dX8_timesTold_19 : decode cX8_timesTold 19 = .ok (.istore 4, 2) := by decide +kernel
theorem dX8_timesTold_21 : decode cX8_timesTold 21 = .ok (.iload 4, 2) := by decide +kernel
theorem dX8_timesTold_23 : decode cX8_timesTold 23 = .ok (.aload_n 0, 1) := by decide +kernel
theorem dX8_timesTold_24 : decode cX8_timesTold 24 = .ok (.getfield 24, 3) := by decide +kernel
theorem dX8_timesTold_27 : decode cX8_timesTold 27 = .ok (.iload_n 3, 1) := by decide +kernel
theorem dX8_timesTold_28 : decode cX8_timesTold 28 = .ok (.iaload, 1) := by decide +kernel
theorem dX8_timesTold_29 : decode cX8_timesTold 29 = .ok (.if_icmp .ge 35, 3) := by decide +kernel
theorem dX8_timesTold_32 : decode cX8_timesTold 32 = .ok (.iload 4, 2) := by decide +kernel
theorem dX8_timesTold_34 : decode cX8_timesTold 34 = .ok (.bipush 8, 2) := by decide +kernel
theorem dX8_timesTold_36 : decode cX8_timesTold 36 = .ok (.if_icmp .ge 28, 3) := by decide +kernel
theorem dX8_timesTold_39 : decode cX8_timesTold 39 = .ok (.aload_n 0, 1) := by decide +kernel
theorem dX8_timesTold_40 : decode cX8_timesTold 40 = .ok (.getfield 27, 3) := by decide +kernel
theorem dX8_timesTold_43 : decode cX8_timesTold 43 = .ok (.iload_n 3, 1) := by decide +kernel
theorem dX8_timesTold_44 : decode cX8_timesTold 44 = .ok (.bipush 8, 2) := by decide +kernel
theorem dX8_timesTold_46 : decode cX8_timesTold 46 = .ok (.imul, 1) := by decide +kernel
theorem dX8_timesTold_47 : decode cX8_timesTold 47 = .ok (.iload 4, 2) := by decide +kernel
theorem dX8_timesTold_49 : decode cX8_timesTold 49 = .ok (.iadd, 1) := by decide +kernel
theorem dX8_timesTold_50 : decode cX8_timesTold 50 = .ok (.iaload, 1) := by decide +kernel
theorem dX8_timesTold_51 : decode cX8_timesTold 51 = .ok (.iload_n 1, 1) := by decide +kernel
theorem dX8_timesTold_52 : decode cX8_timesTold 52 = .ok (.if_icmp .ne 6, 3) := by decide +kernel
theorem dX8_timesTold_55 : decode cX8_timesTold 55 = .ok (.iinc 2 1, 3) := by decide +kernel
theorem dX8_timesTold_58 : decode cX8_timesTold 58 = .ok (.iinc 4 1, 3) := by decide +kernel
theorem dX8_timesTold_61 : decode cX8_timesTold 61 = .ok (.goto (-40), 3) := by decide +kernel
theorem dX8_timesTold_64 : decode cX8_timesTold 64 = .ok (.iinc 3 1, 3) := by decide +kernel
theorem dX8_timesTold_67 : decode cX8_timesTold 67 = .ok (.goto (-63), 3) := by decide +kernel
theorem dX8_timesTold_70 : decode cX8_timesTold 70 = .ok (.iload_n 2, 1) := by decide +kernel
theorem dX8_timesTold_71 : decode cX8_timesTold 71 = .ok (.ireturn, 1) := by decide +kernel
theorem dX8_overlap_0 : decode cX8_overlap 0 = .ok (.iload_n 1, 1) := by decide +kernel
theorem dX8_overlap_1 : decode cX8_overlap 1 = .ok (.iload_n 2, 1) := by decide +kernel
theorem dX8_overlap_2 : decode cX8_overlap 2 = .ok (.if_icmp .eq 33, 3) := by decide +kernel
theorem dX8_overlap_5 : decode cX8_overlap 5 = .ok (.aload_n 0, 1) := by decide +kernel
theorem dX8_overlap_6 : decode cX8_overlap 6 = .ok (.iload_n 1, 1) := by decide +kernel
theorem dX8_overlap_7 : decode cX8_overlap 7 = .ok (.invokevirtual 77, 3) := by decide +kernel
theorem dX8_overlap_10 : decode cX8_overlap 10 = .ok (.aload_n 0, 1) := by decide +kernel
theorem dX8_overlap_11 : decode cX8_overlap 11 = .ok (.iload_n 2, 1) := by decide +kernel
theorem dX8_overlap_12 : decode cX8_overlap 12 = .ok (.invokevirtual 80, 3) := by decide +kernel
theorem dX8_overlap_15 : decode cX8_overlap 15 = .ok (.if_icmp .ge 20, 3) := by decide +kernel
theorem dX8_overlap_18 : decode cX8_overlap 18 = .ok (.aload_n 0, 1) := by decide +kernel
theorem dX8_overlap_19 : decode cX8_overlap 19 = .ok (.iload_n 2, 1) := by decide +kernel
theorem dX8_overlap_20 : decode cX8_overlap 20 = .ok (.invokevirtual 77, 3) := by decide +kernel
theorem dX8_overlap_23 : decode cX8_overlap 23 = .ok (.aload_n 0, 1) := by decide +kernel
theorem dX8_overlap_24 : decode cX8_overlap 24 = .ok (.iload_n 1, 1) := by decide +kernel
theorem dX8_overlap_25 : decode cX8_overlap 25 = .ok (.invokevirtual 80, 3) := by decide +kernel
theorem dX8_overlap_28 : decode cX8_overlap 28 = .ok (.if_icmp .ge 7, 3) := by decide +kernel
theorem dX8_overlap_31 : decode cX8_overlap 31 = .ok (.iconst 1, 1) := by decide +kernel
theorem dX8_overlap_32 : decode cX8_overlap 32 = .ok (.goto 4, 3) := by decide +kernel
theorem dX8_overlap_35 : decode cX8_overlap 35 = .ok (.iconst 0, 1) := by decide +kernel
theorem dX8_overlap_36 : decode cX8_overlap 36 = .ok (.ireturn, 1) := by decide +kernel
theorem dX8_interrupt_0 : decode cX8_interrupt 0 = .ok (.aload_n 0, 1) := by decide +kernel
theorem dX8_interrupt_1 : decode cX8_interrupt 1 = .ok (.iload_n 1, 1) := by decide +kernel
theorem dX8_interrupt_2 : decode cX8_interrupt 2 = .ok (.invokevirtual 77, 3) := by decide +kernel
theorem dX8_interrupt_5 : decode cX8_interrupt 5 = .ok (.aload_n 0, 1) := by decide +kernel
theorem dX8_interrupt_6 : decode cX8_interrupt 6 = .ok (.iload_n 2, 1) := by decide +kernel
theorem dX8_interrupt_7 : decode cX8_interrupt 7 = .ok (.invokevirtual 77, 3) := by decide +kernel
theorem dX8_interrupt_10 : decode cX8_interrupt 10 = .ok (.if_icmp .le 51, 3) := by decide +kernel
theorem dX8_interrupt_13 : decode cX8_interrupt 13 = .ok (.aload_n 0, 1) := by decide +kernel
theorem dX8_interrupt_14 : decode cX8_interrupt 14 = .ok (.iload_n 1, 1) := by decide +kernel
theorem dX8_interrupt_15 : decode cX8_interrupt 15 = .ok (.invokevirtual 77, 3) := by decide +kernel
theorem dX8_interrupt_18 : decode cX8_interrupt 18 = .ok (.aload_n 0, 1) := by decide +kernel
theorem dX8_interrupt_19 : decode cX8_interrupt 19 = .ok (.iload_n 2, 1) := by decide +kernel
theorem dX8_interrupt_20 : decode cX8_interrupt 20 = .ok (.invokevirtual 80, 3) := by decide +kernel
theorem dX8_interrupt_23 : decode cX8_interrupt 23 = .ok (.if_icmp .ge 38, 3) := by decide +kernel
theorem dX8_interrupt_26 : decode cX8_interrupt 26 = .ok (.aload_n 0, 1) := by decide +kernel
theorem dX8_interrupt_27 : decode cX8_interrupt 27 = .ok (.iload_n 1, 1) := by decide +kernel
theorem dX8_interrupt_28 : decode cX8_interrupt 28 = .ok (.invokevirtual 83, 3) := by decide +kernel
theorem dX8_interrupt_31 : decode cX8_interrupt 31 = .ok (.iconst (-1), 1) := by decide +kernel
theorem dX8_interrupt_32 : decode cX8_interrupt 32 = .ok (.if_icmp .eq 29, 3) := by decide +kernel
theorem dX8_interrupt_35 : decode cX8_interrupt 35 = .ok (.aload_n 0, 1) := by decide +kernel
theorem dX8_interrupt_36 : decode cX8_interrupt 36 = .ok (.iload_n 2, 1) := by decide +kernel
theorem dX8_interrupt_37 : decode cX8_interrupt 37 = .ok (.invokevirtual 83, 3) := by decide +kernel
theorem dX8_interrupt_40 : decode cX8_interrupt 40 = .ok (.iconst (-1), 1) := by decide +kernel
theorem dX8_interrupt_41 : decode cX8_interrupt 41 = .ok (.if_icmp .eq 20, 3) := by decide +kernel
theorem dX8_interrupt_44 : decode cX8_interrupt 44 = .ok (.aload_n 0, 1) := by decide +kernel
theorem dX8_interrupt_45 : decode cX8_interrupt 45 = .ok (.iload_n 1, 1) := by decide +kernel
theorem dX8_interrupt_46 : decode cX8_interrupt 46 = .ok (.invokevirtual 83, 3) := by decide +kernel
theorem dX8_interrupt_49 : decode cX8_interrupt 49 = .ok (.aload_n 0, 1) := by decide +kernel
theorem dX8_interrupt_50 : decode cX8_interrupt 50 = .ok (.iload_n 2, 1) := by decide +kernel
theorem dX8_interrupt_51 : decode cX8_interrupt 51 = .ok (.invokevirtual 83, 3) := by decide +kernel
theorem dX8_interrupt_54 : decode cX8_interrupt 54 = .ok (.if_icmp .eq 7, 3) := by decide +kernel
theorem dX8_interrupt_57 : decode cX8_interrupt 57 = .ok (.iconst 1, 1) := by decide +kernel
theorem dX8_interrupt_58 : decode cX8_interrupt 58 = .ok (.goto 4, 3) := by decide +kernel
theorem dX8_interrupt_61 : decode cX8_interrupt 61 = .ok (.iconst 0, 1) := by decide +kernel
theorem dX8_interrupt_62 : decode cX8_interrupt 62 = .ok (.ireturn, 1) := by decide +kernel
theorem dX8_goesOn_0 : decode cX8_goesOn 0 = .ok (.aload_n 0, 1) := by decide +kernel
theorem dX8_goesOn_1 : decode cX8_goesOn 1 = .ok (.iload_n 1, 1) := by decide +kernel
theorem dX8_goesOn_2 : decode cX8_goesOn 2 = .ok (.invokevirtual 77, 3) := by decide +kernel
theorem dX8_goesOn_5 : decode cX8_goesOn 5 = .ok (.iload_n 2, 1) := by decide +kernel
theorem dX8_goesOn_6 : decode cX8_goesOn 6 = .ok (.if_icmp .gt 16, 3) := by decide +kernel
theorem dX8_goesOn_9 : decode cX8_goesOn 9 = .ok (.iload_n 2, 1) := by decide +kernel
theorem dX8_goesOn_10 : decode cX8_goesOn 10 = .ok (.aload_n 0, 1) := by decide +kernel
theorem dX8_goesOn_11 : decode cX8_goesOn 11 = .ok (.iload_n 1, 1) := by decide +kernel
theorem dX8_goesOn_12 : decode cX8_goesOn 12 = .ok (.invokevirtual 80, 3) := by decide +kernel
theorem dX8_goesOn_15 : decode cX8_goesOn 15 = .ok (.if_icmp .ge 7, 3) := by decide +kernel
theorem dX8_goesOn_18 : decode cX8_goesOn 18 = .ok (.iconst 1, 1) := by decide +kernel
theorem dX8_goesOn_19 : decode cX8_goesOn 19 = .ok (.goto 4, 3) := by decide +kernel
theorem dX8_goesOn_22 : decode cX8_goesOn 22 = .ok (.iconst 0, 1) := by decide +kernel
theorem dX8_goesOn_23 : decode cX8_goesOn 23 = .ok (.ireturn, 1) := by decide +kernel
theorem dX8_overlapping_0 : decode cX8_overlapping 0 = .ok (.iconst 0, 1) := by decide +kernel
theorem dX8_overlapping_1 : decode cX8_overlapping 1 = .ok (.istore_n 2, 1) := by decide +kernel
theorem dX8_overlapping_2 : decode cX8_overlapping 2 = .ok (.iconst 0, 1) := by decide +kernel
theorem dX8_overlapping_3 : decode cX8_overlapping 3 = .ok (.istore_n 3, 1) := by decide +kernel
theorem dX8_overlapping_4 : decode cX8_overlapping 4 = .ok (.iload_n 3, 1) := by decide +kernel
theorem dX8_overlapping_5 : decode cX8_overlapping 5 = .ok (.aload_n 0, 1) := by decide +kernel
theorem dX8_overlapping_6 : decode cX8_overlapping 6 = .ok (.getfield 36, 3) := by decide +kernel
theorem dX8_overlapping_9 : decode cX8_overlapping 9 = .ok (.if_icmp .ge 24, 3) := by decide +kernel
theorem dX8_overlapping_12 : decode cX8_overlapping 12 = .ok (.aload_n 0, 1) := by decide +kernel
theorem dX8_overlapping_13 : decode cX8_overlapping 13 = .ok (.iload_n 1, 1) := by decide +kernel
theorem dX8_overlapping_14 : decode cX8_overlapping 14 = .ok (.iload_n 3, 1) := by decide +kernel
theorem dX8_overlapping_15 : decode cX8_overlapping 15 = .ok (.invokevirtual 86, 3) := by decide +kernel
theorem dX8_overlapping_18 : decode cX8_overlapping 18 = .ok (.ifCond .eq 9, 3) := by decide +kernel
theorem dX8_overlapping_21 : decode cX8_overlapping 21 = .ok (.iload_n 2, 1) := by decide +kernel
theorem dX8_overlapping_22 : decode cX8_overlapping 22 = .ok (.iconst 1, 1) := by decide +kernel
theorem dX8_overlapping_23 : decode cX8_overlapping 23 = .ok (.iload_n 3, 1) := by decide +kernel
theorem dX8_overlapping_24 : decode cX8_overlapping 24 = .ok (.ishl, 1) := by decide +kernel
theorem dX8_overlapping_25 : decode cX8_overlapping 25 = .ok (.ior, 1) := by decide +kernel
theorem dX8_overlapping_26 : decode cX8_overlapping 26 = .ok (.istore_n 2, 1) := by decide +kernel
theorem dX8_overlapping_27 : decode cX8_overlapping 27 = .ok (.iinc 3 1, 3) := by decide +kernel
theorem dX8_overlapping_30 : decode cX8_overlapping 30 = .ok (.goto (-26), 3) := by decide +kernel
theorem dX8_overlapping_33 : decode cX8_overlapping 33 = .ok (.iload_n 2, 1) := by decide +kernel
theorem dX8_overlapping_34 : decode cX8_overlapping 34 = .ok (.ireturn, 1) := by decide +kernel
theorem dX8_interruptedBy_0 : decode cX8_interruptedBy 0 = .ok (.iconst 0, 1) := by decide +kernel
theorem dX8_interruptedBy_1 : decode cX8_interruptedBy 1 = .ok (.istore_n 2, 1) := by decide +kernel
theorem dX8_interruptedBy_2 : decode cX8_interruptedBy 2 = .ok (.iconst 0, 1) := by decide +kernel
theorem dX8_interruptedBy_3 : decode cX8_interruptedBy 3 = .ok (.istore_n 3, 1) := by decide +kernel
theorem dX8_interruptedBy_4 : decode cX8_interruptedBy 4 = .ok (.iload_n 3, 1) := by decide +kernel
theorem dX8_interruptedBy_5 : decode cX8_interruptedBy 5 = .ok (.aload_n 0, 1) := by decide +kernel
theorem dX8_interruptedBy_6 : decode cX8_interruptedBy 6 = .ok (.getfield 36, 3) := by decide +kernel
theorem dX8_interruptedBy_9 : decode cX8_interruptedBy 9 = .ok (.if_icmp .ge 24, 3) := by decide +kernel
theorem dX8_interruptedBy_12 : decode cX8_interruptedBy 12 = .ok (.aload_n 0, 1) := by decide +kernel
theorem dX8_interruptedBy_13 : decode cX8_interruptedBy 13 = .ok (.iload_n 1, 1) := by decide +kernel
theorem dX8_interruptedBy_14 : decode cX8_interruptedBy 14 = .ok (.iload_n 3, 1) := by decide +kernel
theorem dX8_interruptedBy_15 : decode cX8_interruptedBy 15 = .ok (.invokevirtual 90, 3) := by decide +kernel
theorem dX8_interruptedBy_18 : decode cX8_interruptedBy 18 = .ok (.ifCond .eq 9, 3) := by decide +kernel
theorem dX8_interruptedBy_21 : decode cX8_interruptedBy 21 = .ok (.iload_n 2, 1) := by decide +kernel
theorem dX8_interruptedBy_22 : decode cX8_interruptedBy 22 = .ok (.iconst 1, 1) := by decide +kernel
theorem dX8_interruptedBy_23 : decode cX8_interruptedBy 23 = .ok (.iload_n 3, 1) := by decide +kernel
theorem dX8_interruptedBy_24 : decode cX8_interruptedBy 24 = .ok (.ishl, 1) := by decide +kernel
theorem dX8_interruptedBy_25 : decode cX8_interruptedBy 25 = .ok (.ior, 1) := by decide +kernel
theorem dX8_interruptedBy_26 : decode cX8_interruptedBy 26 = .ok (.istore_n 2, 1) := by decide +kernel
theorem dX8_interruptedBy_27 : decode cX8_interruptedBy 27 = .ok (.iinc 3 1, 3) := by decide +kernel
theorem dX8_interruptedBy_30 : decode cX8_interruptedBy 30 = .ok (.goto (-26), 3) := by decide +kernel
theorem dX8_interruptedBy_33 : decode cX8_interruptedBy 33 = .ok (.iload_n 2, 1) := by decide +kernel
theorem dX8_interruptedBy_34 : decode cX8_interruptedBy 34 = .ok (.ireturn, 1) := by decide +kernel
theorem dX8_goingOn_0 : decode cX8_goingOn 0 = .ok (.iconst 0, 1) := by decide +kernel
theorem dX8_goingOn_1 : decode cX8_goingOn 1 = .ok (.istore_n 2, 1) := by decide +kernel
theorem dX8_goingOn_2 : decode cX8_goingOn 2 = .ok (.iconst 0, 1) := by decide +kernel
theorem dX8_goingOn_3 : decode cX8_goingOn 3 = .ok (.istore_n 3, 1) := by decide +kernel
theorem dX8_goingOn_4 : decode cX8_goingOn 4 = .ok (.iload_n 3, 1) := by decide +kernel
theorem dX8_goingOn_5 : decode cX8_goingOn 5 = .ok (.aload_n 0, 1) := by decide +kernel
theorem dX8_goingOn_6 : decode cX8_goingOn 6 = .ok (.getfield 36, 3) := by decide +kernel
theorem dX8_goingOn_9 : decode cX8_goingOn 9 = .ok (.if_icmp .ge 24, 3) := by decide +kernel
theorem dX8_goingOn_12 : decode cX8_goingOn 12 = .ok (.aload_n 0, 1) := by decide +kernel
theorem dX8_goingOn_13 : decode cX8_goingOn 13 = .ok (.iload_n 3, 1) := by decide +kernel
theorem dX8_goingOn_14 : decode cX8_goingOn 14 = .ok (.iload_n 1, 1) := by decide +kernel
theorem dX8_goingOn_15 : decode cX8_goingOn 15 = .ok (.invokevirtual 93, 3) := by decide +kernel
theorem dX8_goingOn_18 : decode cX8_goingOn 18 = .ok (.ifCond .eq 9, 3) := by decide +kernel
theorem dX8_goingOn_21 : decode cX8_goingOn 21 = .ok (.iload_n 2, 1) := by decide +kernel
theorem dX8_goingOn_22 : decode cX8_goingOn 22 = .ok (.iconst 1, 1) := by decide +kernel
theorem dX8_goingOn_23 : decode cX8_goingOn 23 = .ok (.iload_n 3, 1) := by decide +kernel
theorem dX8_goingOn_24 : decode cX8_goingOn 24 = .ok (.ishl, 1) := by decide +kernel
theorem dX8_goingOn_25 : decode cX8_goingOn 25 = .ok (.ior, 1) := by decide +kernel
theorem dX8_goingOn_26 : decode cX8_goingOn 26 = .ok (.istore_n 2, 1) := by decide +kernel
theorem dX8_goingOn_27 : decode cX8_goingOn 27 = .ok (.iinc 3 1, 3) := by decide +kernel
theorem dX8_goingOn_30 : decode cX8_goingOn 30 = .ok (.goto (-26), 3) := by decide +kernel
theorem dX8_goingOn_33 : decode cX8_goingOn 33 = .ok (.iload_n 2, 1) := by decide +kernel
theorem dX8_goingOn_34 : decode cX8_goingOn 34 = .ok (.ireturn, 1) := by decide +kernel
theorem dX8_speakingAt_0 : decode cX8_speakingAt 0 = .ok (.iconst 0, 1) := by decide +kernel
theorem dX8_speakingAt_1 : decode cX8_speakingAt 1 = .ok (.istore_n 2, 1) := by decide +kernel
theorem dX8_speakingAt_2 : decode cX8_speakingAt 2 = .ok (.iconst 0, 1) := by decide +kernel
theorem dX8_speakingAt_3 : decode cX8_speakingAt 3 = .ok (.istore_n 3, 1) := by decide +kernel
theorem dX8_speakingAt_4 : decode cX8_speakingAt 4 = .ok (.iload_n 3, 1) := by decide +kernel
theorem dX8_speakingAt_5 : decode cX8_speakingAt 5 = .ok (.aload_n 0, 1) := by decide +kernel
theorem dX8_speakingAt_6 : decode cX8_speakingAt 6 = .ok (.getfield 36, 3) := by decide +kernel
theorem dX8_speakingAt_9 : decode cX8_speakingAt 9 = .ok (.if_icmp .ge 37, 3) := by decide +kernel
theorem dX8_speakingAt_12 : decode cX8_speakingAt 12 = .ok (.aload_n 0, 1) := by decide +kernel
theorem dX8_speakingAt_13 : decode cX8_speakingAt 13 = .ok (.iload_n 3, 1) := by decide +kernel
theorem dX8_speakingAt_14 : decode cX8_speakingAt 14 = .ok (.iload_n 1, 1) := by decide +kernel
theorem dX8_speakingAt_15 : decode cX8_speakingAt 15 = .ok (.invokevirtual 93, 3) := by decide +kernel
theorem dX8_speakingAt_18 : decode cX8_speakingAt 18 = .ok (.ifCond .eq 22, 3) := by decide +kernel
theorem dX8_speakingAt_21 : decode cX8_speakingAt 21 = .ok (.aload_n 0, 1) := by decide +kernel
theorem dX8_speakingAt_22 : decode cX8_speakingAt 22 = .ok (.iload_n 3, 1) := by decide +kernel
theorem dX8_speakingAt_23 : decode cX8_speakingAt 23 = .ok (.invokevirtual 83, 3) := by decide +kernel
theorem dX8_speakingAt_26 : decode cX8_speakingAt 26 = .ok (.iconst (-1), 1) := by decide +kernel
theorem dX8_speakingAt_27 : decode cX8_speakingAt 27 = .ok (.if_icmp .eq 13, 3) := by decide +kernel
theorem dX8_speakingAt_30 : decode cX8_speakingAt 30 = .ok (.iload_n 2, 1) := by decide +kernel
theorem dX8_speakingAt_31 : decode cX8_speakingAt 31 = .ok (.iconst 1, 1) := by decide +kernel
theorem dX8_speakingAt_32 : decode cX8_speakingAt 32 = .ok (.aload_n 0, 1) := by decide +kernel
theorem dX8_speakingAt_33 : decode cX8_speakingAt 33 = .ok (.iload_n 3, 1) := by decide +kernel
theorem dX8_speakingAt_34 : decode cX8_speakingAt 34 = .ok (.invokevirtual 83, 3) := by decide +kernel
theorem dX8_speakingAt_37 : decode cX8_speakingAt 37 = .ok (.ishl, 1) := by decide +kernel
theorem dX8_speakingAt_38 : decode cX8_speakingAt 38 = .ok (.ior, 1) := by decide +kernel
theorem dX8_speakingAt_39 : decode cX8_speakingAt 39 = .ok (.istore_n 2, 1) := by decide +kernel
theorem dX8_speakingAt_40 : decode cX8_speakingAt 40 = .ok (.iinc 3 1, 3) := by decide +kernel
theorem dX8_speakingAt_43 : decode cX8_speakingAt 43 = .ok (.goto (-39), 3) := by decide +kernel
theorem dX8_speakingAt_46 : decode cX8_speakingAt 46 = .ok (.iload_n 2, 1) := by decide +kernel
theorem dX8_speakingAt_47 : decode cX8_speakingAt 47 = .ok (.ireturn, 1) := by decide +kernel
theorem dX8_overlappingPairs_0 : decode cX8_overlappingPairs 0 = .ok (.iconst 0, 1) := by decide +kernel
theorem dX8_overlappingPairs_1 : decode cX8_overlappingPairs 1 = .ok (.istore_n 1, 1) := by decide +kernel
theorem dX8_overlappingPairs_2 : decode cX8_overlappingPairs 2 = .ok (.iconst 0, 1) := by decide +kernel
theorem dX8_overlappingPairs_3 : decode cX8_overlappingPairs 3 = .ok (.istore_n 2, 1) := by decide +kernel
theorem dX8_overlappingPairs_4 : decode cX8_overlappingPairs 4 = .ok (.iload_n 2, 1) := by decide +kernel
theorem dX8_overlappingPairs_5 : decode cX8_overlappingPairs 5 = .ok (.aload_n 0, 1) := by decide +kernel
theorem dX8_overlappingPairs_6 : decode cX8_overlappingPairs 6 = .ok (.getfield 36, 3) := by decide +kernel
theorem dX8_overlappingPairs_9 : decode cX8_overlappingPairs 9 = .ok (.if_icmp .ge 34, 3) := by decide +kernel
theorem dX8_overlappingPairs_12 : decode cX8_overlappingPairs 12 = .ok (.iconst 0, 1) := by decide +kernel
theorem dX8_overlappingPairs_13 : decode cX8_overlappingPairs 13 = .ok (.istore_n 3, 1) := by decide +kernel
theorem dX8_overlappingPairs_14 : decode cX8_overlappingPairs 14 = .ok (.iload_n 3, 1) := by decide +kernel
theorem dX8_overlappingPairs_15 : decode cX8_overlappingPairs 15 = .ok (.iload_n 2, 1) := by decide +kernel
theorem dX8_overlappingPairs_16 : decode cX8_overlappingPairs 16 = .ok (.if_icmp .ge 21, 3) := by decide +kernel
theorem dX8_overlappingPairs_19 : decode cX8_overlappingPairs 19 = .ok (.aload_n 0, 1) := by decide +kernel
theorem dX8_overlappingPairs_20 : decode cX8_overlappingPairs 20 = .ok (.iload_n 2, 1) := by decide +kernel
theorem dX8_overlappingPairs_21 : decode cX8_overlappingPairs 21 = .ok (.iload_n 3, 1) := by decide +kernel
theorem dX8_overlappingPairs_22 : decode cX8_overlappingPairs 22 = .ok (.invokevirtual 86, 3) := by decide +kernel
theorem dX8_overlappingPairs_25 : decode cX8_overlappingPairs 25 = .ok (.ifCond .eq 6, 3) := by decide +kernel
theorem dX8_overlappingPairs_28 : decode cX8_overlappingPairs 28 = .ok (.iinc 1 1, 3) := by decide +kernel
theorem dX8_overlappingPairs_31 : decode cX8_overlappingPairs 31 = .ok (.iinc 3 1, 3) := by decide +kernel
theorem dX8_overlappingPairs_34 : decode cX8_overlappingPairs 34 = .ok (.goto (-20), 3) := by decide +kernel
theorem dX8_overlappingPairs_37 : decode cX8_overlappingPairs 37 = .ok (.iinc 2 1, 3) := by decide +kernel
theorem dX8_overlappingPairs_40 : decode cX8_overlappingPairs 40 = .ok (.goto (-36), 3) := by decide +kernel
theorem dX8_overlappingPairs_43 : decode cX8_overlappingPairs 43 = .ok (.iload_n 1, 1) := by decide +kernel
theorem dX8_overlappingPairs_44 : decode cX8_overlappingPairs 44 = .ok (.ireturn, 1) := by decide +kernel
theorem dX8_interruptions_0 : decode cX8_interruptions 0 = .ok (.iconst 0, 1) := by decide +kernel
theorem dX8_interruptions_1 : decode cX8_interruptions 1 = .ok (.istore_n 3, 1) := by decide +kernel
theorem dX8_interruptions_2 : decode cX8_interruptions 2 = .ok (.iconst 0, 1) := by decide +kernel
theorem dX8_interruptions_3 : decode cX8_interruptions 3 = .ok (.istore 4, 2) := by decide +kernel
theorem dX8_interruptions_5 : decode cX8_interruptions 5 = .ok (.iload 4, 2) := by decide +kernel
theorem dX8_interruptions_7 : decode cX8_interruptions 7 = .ok (.aload_n 0, 1) := by decide +kernel
theorem dX8_interruptions_8 : decode cX8_interruptions 8 = .ok (.getfield 36, 3) := by decide +kernel
theorem dX8_interruptions_11 : decode cX8_interruptions 11 = .ok (.if_icmp .ge 61, 3) := by decide +kernel
theorem dX8_interruptions_14 : decode cX8_interruptions 14 = .ok (.iconst 0, 1) := by decide +kernel
theorem dX8_interruptions_15 : decode cX8_interruptions 15 = .ok (.istore 5, 2) := by decide +kernel
theorem dX8_interruptions_17 : decode cX8_interruptions 17 = .ok (.iload 5, 2) := by decide +kernel
theorem dX8_interruptions_19 : decode cX8_interruptions 19 = .ok (.aload_n 0, 1) := by decide +kernel
theorem dX8_interruptions_20 : decode cX8_interruptions 20 = .ok (.getfield 36, 3) := by decide +kernel
theorem dX8_interruptions_23 : decode cX8_interruptions 23 = .ok (.if_icmp .ge 43, 3) := by decide +kernel
theorem dX8_interruptions_26 : decode cX8_interruptions 26 = .ok (.aload_n 0, 1) := by decide +kernel
theorem dX8_interruptions_27 : decode cX8_interruptions 27 = .ok (.iload 4, 2) := by decide +kernel
theorem dX8_interruptions_29 : decode cX8_interruptions 29 = .ok (.invokevirtual 83, 3) := by decide +kernel
theorem dX8_interruptions_32 : decode cX8_interruptions 32 = .ok (.iload_n 1, 1) := by decide +kernel
theorem dX8_interruptions_33 : decode cX8_interruptions 33 = .ok (.if_icmp .ne 27, 3) := by decide +kernel
theorem dX8_interruptions_36 : decode cX8_interruptions 36 = .ok (.aload_n 0, 1) := by decide +kernel
theorem dX8_interruptions_37 : decode cX8_interruptions 37 = .ok (.iload 5, 2) := by decide +kernel
theorem dX8_interruptions_39 : decode cX8_interruptions 39 = .ok (.invokevirtual 83, 3) := by decide +kernel
theorem dX8_interruptions_42 : decode cX8_interruptions 42 = .ok (.iload_n 2, 1) := by decide +kernel
theorem dX8_interruptions_43 : decode cX8_interruptions 43 = .ok (.if_icmp .ne 17, 3) := by decide +kernel
theorem dX8_interruptions_46 : decode cX8_interruptions 46 = .ok (.aload_n 0, 1) := by decide +kernel
theorem dX8_interruptions_47 : decode cX8_interruptions 47 = .ok (.iload 4, 2) := by decide +kernel
theorem dX8_interruptions_49 : decode cX8_interruptions 49 = .ok (.iload 5, 2) := by decide +kernel
theorem dX8_interruptions_51 : decode cX8_interruptions 51 = .ok (.invokevirtual 90, 3) := by decide +kernel
theorem dX8_interruptions_54 : decode cX8_interruptions 54 = .ok (.ifCond .eq 6, 3) := by decide +kernel
theorem dX8_interruptions_57 : decode cX8_interruptions 57 = .ok (.iinc 3 1, 3) := by decide +kernel
theorem dX8_interruptions_60 : decode cX8_interruptions 60 = .ok (.iinc 5 1, 3) := by decide +kernel
theorem dX8_interruptions_63 : decode cX8_interruptions 63 = .ok (.goto (-46), 3) := by decide +kernel
theorem dX8_interruptions_66 : decode cX8_interruptions 66 = .ok (.iinc 4 1, 3) := by decide +kernel
theorem dX8_interruptions_69 : decode cX8_interruptions 69 = .ok (.goto (-64), 3) := by decide +kernel
theorem dX8_interruptions_72 : decode cX8_interruptions 72 = .ok (.iload_n 3, 1) := by decide +kernel
theorem dX8_interruptions_73 : decode cX8_interruptions 73 = .ok (.ireturn, 1) := by decide +kernel
theorem dX8_secondsAlone_0 : decode cX8_secondsAlone 0 = .ok (.aload_n 0, 1) := by decide +kernel
theorem dX8_secondsAlone_1 : decode cX8_secondsAlone 1 = .ok (.iload_n 1, 1) := by decide +kernel
theorem dX8_secondsAlone_2 : decode cX8_secondsAlone 2 = .ok (.invokevirtual 77, 3) := by decide +kernel
theorem dX8_secondsAlone_5 : decode cX8_secondsAlone 5 = .ok (.istore_n 2, 1) := by decide +kernel
theorem dX8_secondsAlone_6 : decode cX8_secondsAlone 6 = .ok (.iconst 0, 1) := by decide +kernel
theorem dX8_secondsAlone_7 : decode cX8_secondsAlone 7 = .ok (.istore_n 3, 1) := by decide +kernel
theorem dX8_secondsAlone_8 : decode cX8_secondsAlone 8 = .ok (.iconst 0, 1) := by decide +kernel
theorem dX8_secondsAlone_9 : decode cX8_secondsAlone 9 = .ok (.istore 4, 2) := by decide +kernel
theorem dX8_secondsAlone_11 : decode cX8_secondsAlone 11 = .ok (.iload 4, 2) := by decide +kernel
theorem dX8_secondsAlone_13 : decode cX8_secondsAlone 13 = .ok (.aload_n 0, 1) := by decide +kernel
theorem dX8_secondsAlone_14 : decode cX8_secondsAlone 14 = .ok (.getfield 36, 3) := by decide +kernel
theorem dX8_secondsAlone_17 : decode cX8_secondsAlone 17 = .ok (.if_icmp .ge 49, 3) := by decide +kernel
theorem dX8_secondsAlone_20 : decode cX8_secondsAlone 20 = .ok (.iload 4, 2) := by decide +kernel
theorem dX8_secondsAlone_22 : decode cX8_secondsAlone 22 = .ok (.iload_n 1, 1) := by decide +kernel
theorem dX8_secondsAlone_23 : decode cX8_secondsAlone 23 = .ok (.if_icmp .eq 37, 3) := by decide +kernel
theorem dX8_secondsAlone_26 : decode cX8_secondsAlone 26 = .ok (.iload_n 3, 1) := by decide +kernel
theorem dX8_secondsAlone_27 : decode cX8_secondsAlone 27 = .ok (.iconst 0, 1) := by decide +kernel
theorem dX8_secondsAlone_28 : decode cX8_secondsAlone 28 = .ok (.aload_n 0, 1) := by decide +kernel
theorem dX8_secondsAlone_29 : decode cX8_secondsAlone 29 = .ok (.iload 4, 2) := by decide +kernel
theorem dX8_secondsAlone_31 : decode cX8_secondsAlone 31 = .ok (.invokevirtual 77, 3) := by decide +kernel
theorem dX8_secondsAlone_34 : decode cX8_secondsAlone 34 = .ok (.aload_n 0, 1) := by decide +kernel
theorem dX8_secondsAlone_35 : decode cX8_secondsAlone 35 = .ok (.iload_n 1, 1) := by decide +kernel
theorem dX8_secondsAlone_36 : decode cX8_secondsAlone 36 = .ok (.invokevirtual 80, 3) := by decide +kernel
theorem dX8_secondsAlone_39 : decode cX8_secondsAlone 39 = .ok (.invokestatic 96, 3) := by decide +kernel
theorem dX8_secondsAlone_42 : decode cX8_secondsAlone 42 = .ok (.iload_n 2, 1) := by decide +kernel
theorem dX8_secondsAlone_43 : decode cX8_secondsAlone 43 = .ok (.isub, 1) := by decide +kernel
theorem dX8_secondsAlone_44 : decode cX8_secondsAlone 44 = .ok (.invokestatic 101, 3) := by decide +kernel
theorem dX8_secondsAlone_47 : decode cX8_secondsAlone 47 = .ok (.iadd, 1) := by decide +kernel
theorem dX8_secondsAlone_48 : decode cX8_secondsAlone 48 = .ok (.istore_n 3, 1) := by decide +kernel
theorem dX8_secondsAlone_49 : decode cX8_secondsAlone 49 = .ok (.iload_n 2, 1) := by decide +kernel
theorem dX8_secondsAlone_50 : decode cX8_secondsAlone 50 = .ok (.aload_n 0, 1) := by decide +kernel
theorem dX8_secondsAlone_51 : decode cX8_secondsAlone 51 = .ok (.iload 4, 2) := by decide +kernel
theorem dX8_secondsAlone_53 : decode cX8_secondsAlone 53 = .ok (.invokevirtual 80, 3) := by decide +kernel
theorem dX8_secondsAlone_56 : decode cX8_secondsAlone 56 = .ok (.invokestatic 101, 3) := by decide +kernel
theorem dX8_secondsAlone_59 : decode cX8_secondsAlone 59 = .ok (.istore_n 2, 1) := by decide +kernel
theorem dX8_secondsAlone_60 : decode cX8_secondsAlone 60 = .ok (.iinc 4 1, 3) := by decide +kernel
theorem dX8_secondsAlone_63 : decode cX8_secondsAlone 63 = .ok (.goto (-52), 3) := by decide +kernel
theorem dX8_secondsAlone_66 : decode cX8_secondsAlone 66 = .ok (.iload_n 3, 1) := by decide +kernel
theorem dX8_secondsAlone_67 : decode cX8_secondsAlone 67 = .ok (.iconst 0, 1) := by decide +kernel
theorem dX8_secondsAlone_68 : decode cX8_secondsAlone 68 = .ok (.aload_n 0, 1) := by decide +kernel
theorem dX8_secondsAlone_69 : decode cX8_secondsAlone 69 = .ok (.iload_n 1, 1) := by decide +kernel
theorem dX8_secondsAlone_70 : decode cX8_secondsAlone 70 = .ok (.invokevirtual 80, 3) := by decide +kernel
theorem dX8_secondsAlone_73 : decode cX8_secondsAlone 73 = .ok (.iload_n 2, 1) := by decide +kernel
theorem dX8_secondsAlone_74 : decode cX8_secondsAlone 74 = .ok (.isub, 1) := by decide +kernel
theorem dX8_secondsAlone_75 : decode cX8_secondsAlone 75 = .ok (.invokestatic 101, 3) := by decide +kernel
theorem dX8_secondsAlone_78 : decode cX8_secondsAlone 78 = .ok (.iadd, 1) := by decide +kernel
theorem dX8_secondsAlone_79 : decode cX8_secondsAlone 79 = .ok (.ireturn, 1) := by decide +kernel
theorem dX8_secondsWithAny_0 : decode cX8_secondsWithAny 0 = .ok (.iconst 0, 1) := by decide +kernel
theorem dX8_secondsWithAny_1 : decode cX8_secondsWithAny 1 = .ok (.istore_n 1, 1) := by decide +kernel
theorem dX8_secondsWithAny_2 : decode cX8_secondsWithAny 2 = .ok (.iconst 0, 1) := by decide +kernel
theorem dX8_secondsWithAny_3 : decode cX8_secondsWithAny 3 = .ok (.istore_n 2, 1) := by decide +kernel
theorem dX8_secondsWithAny_4 : decode cX8_secondsWithAny 4 = .ok (.iconst 0, 1) := by decide +kernel
theorem dX8_secondsWithAny_5 : decode cX8_secondsWithAny 5 = .ok (.istore_n 3, 1) := by decide +kernel
theorem dX8_secondsWithAny_6 : decode cX8_secondsWithAny 6 = .ok (.iload_n 3, 1) := by decide +kernel
theorem dX8_secondsWithAny_7 : decode cX8_secondsWithAny 7 = .ok (.aload_n 0, 1) := by decide +kernel
theorem dX8_secondsWithAny_8 : decode cX8_secondsWithAny 8 = .ok (.getfield 36, 3) := by decide +kernel
theorem dX8_secondsWithAny_11 : decode cX8_secondsWithAny 11 = .ok (.if_icmp .ge 41, 3) := by decide +kernel
theorem dX8_secondsWithAny_14 : decode cX8_secondsWithAny 14 = .ok (.iload_n 2, 1) := by decide +kernel
theorem dX8_secondsWithAny_15 : decode cX8_secondsWithAny 15 = .ok (.iconst 0, 1) := by decide +kernel
theorem dX8_secondsWithAny_16 : decode cX8_secondsWithAny 16 = .ok (.aload_n 0, 1) := by decide +kernel
theorem dX8_secondsWithAny_17 : decode cX8_secondsWithAny 17 = .ok (.iload_n 3, 1) := by decide +kernel
theorem dX8_secondsWithAny_18 : decode cX8_secondsWithAny 18 = .ok (.invokevirtual 80, 3) := by decide +kernel
theorem dX8_secondsWithAny_21 : decode cX8_secondsWithAny 21 = .ok (.iload_n 1, 1) := by decide +kernel
theorem dX8_secondsWithAny_22 : decode cX8_secondsWithAny 22 = .ok (.aload_n 0, 1) := by decide +kernel
theorem dX8_secondsWithAny_23 : decode cX8_secondsWithAny 23 = .ok (.iload_n 3, 1) := by decide +kernel
theorem dX8_secondsWithAny_24 : decode cX8_secondsWithAny 24 = .ok (.invokevirtual 77, 3) := by decide +kernel
theorem dX8_secondsWithAny_27 : decode cX8_secondsWithAny 27 = .ok (.invokestatic 101, 3) := by decide +kernel
theorem dX8_secondsWithAny_30 : decode cX8_secondsWithAny 30 = .ok (.isub, 1) := by decide +kernel
theorem dX8_secondsWithAny_31 : decode cX8_secondsWithAny 31 = .ok (.invokestatic 101, 3) := by decide +kernel
theorem dX8_secondsWithAny_34 : decode cX8_secondsWithAny 34 = .ok (.iadd, 1) := by decide +kernel
theorem dX8_secondsWithAny_35 : decode cX8_secondsWithAny 35 = .ok (.istore_n 2, 1) := by decide +kernel
theorem dX8_secondsWithAny_36 : decode cX8_secondsWithAny 36 = .ok (.iload_n 1, 1) := by decide +kernel
theorem dX8_secondsWithAny_37 : decode cX8_secondsWithAny 37 = .ok (.aload_n 0, 1) := by decide +kernel
theorem dX8_secondsWithAny_38 : decode cX8_secondsWithAny 38 = .ok (.iload_n 3, 1) := by decide +kernel
theorem dX8_secondsWithAny_39 : decode cX8_secondsWithAny 39 = .ok (.invokevirtual 80, 3) := by decide +kernel
theorem dX8_secondsWithAny_42 : decode cX8_secondsWithAny 42 = .ok (.invokestatic 101, 3) := by decide +kernel
theorem dX8_secondsWithAny_45 : decode cX8_secondsWithAny 45 = .ok (.istore_n 1, 1) := by decide +kernel
theorem dX8_secondsWithAny_46 : decode cX8_secondsWithAny 46 = .ok (.iinc 3 1, 3) := by decide +kernel
theorem dX8_secondsWithAny_49 : decode cX8_secondsWithAny 49 = .ok (.goto (-43), 3) := by decide +kernel
theorem dX8_secondsWithAny_52 : decode cX8_secondsWithAny 52 = .ok (.iload_n 2, 1) := by decide +kernel
theorem dX8_secondsWithAny_53 : decode cX8_secondsWithAny 53 = .ok (.ireturn, 1) := by decide +kernel
theorem dX8_secondsWithSeveral_0 : decode cX8_secondsWithSeveral 0 = .ok (.iconst 0, 1) := by decide +kernel
theorem dX8_secondsWithSeveral_1 : decode cX8_secondsWithSeveral 1 = .ok (.istore_n 1, 1) := by decide +kernel
theorem dX8_secondsWithSeveral_2 : decode cX8_secondsWithSeveral 2 = .ok (.iconst 0, 1) := by decide +kernel
theorem dX8_secondsWithSeveral_3 : decode cX8_secondsWithSeveral 3 = .ok (.istore_n 2, 1) := by decide +kernel
theorem dX8_secondsWithSeveral_4 : decode cX8_secondsWithSeveral 4 = .ok (.iconst 0, 1) := by decide +kernel
theorem dX8_secondsWithSeveral_5 : decode cX8_secondsWithSeveral 5 = .ok (.istore_n 3, 1) := by decide +kernel
theorem dX8_secondsWithSeveral_6 : decode cX8_secondsWithSeveral 6 = .ok (.iconst 0, 1) := by decide +kernel
theorem dX8_secondsWithSeveral_7 : decode cX8_secondsWithSeveral 7 = .ok (.istore 4, 2) := by decide +kernel
theorem dX8_secondsWithSeveral_9 : decode cX8_secondsWithSeveral 9 = .ok (.iload 4, 2) := by decide +kernel
theorem dX8_secondsWithSeveral_11 : decode cX8_secondsWithSeveral 11 = .ok (.aload_n 0, 1) := by decide +kernel
theorem dX8_secondsWithSeveral_12 : decode cX8_secondsWithSeveral 12 = .ok (.getfield 36, 3) := by decide +kernel
theorem dX8_secondsWithSeveral_15 : decode cX8_secondsWithSeveral 15 = .ok (.if_icmp .ge 59, 3) := by decide +kernel
theorem dX8_secondsWithSeveral_18 : decode cX8_secondsWithSeveral 18 = .ok (.aload_n 0, 1) := by decide +kernel
theorem dX8_secondsWithSeveral_19 : decode cX8_secondsWithSeveral 19 = .ok (.iload 4, 2) := by decide +kernel
theorem dX8_secondsWithSeveral_21 : decode cX8_secondsWithSeveral 21 = .ok (.invokevirtual 80, 3) := by decide +kernel
theorem dX8_secondsWithSeveral_24 : decode cX8_secondsWithSeveral 24 = .ok (.iload_n 1, 1) := by decide +kernel
theorem dX8_secondsWithSeveral_25 : decode cX8_secondsWithSeveral 25 = .ok (.invokestatic 96, 3) := by decide +kernel
theorem dX8_secondsWithSeveral_28 : decode cX8_secondsWithSeveral 28 = .ok (.istore 5, 2) := by decide +kernel
theorem dX8_secondsWithSeveral_30 : decode cX8_secondsWithSeveral 30 = .ok (.iload_n 3, 1) := by decide +kernel
theorem dX8_secondsWithSeveral_31 : decode cX8_secondsWithSeveral 31 = .ok (.iconst 0, 1) := by decide +kernel
theorem dX8_secondsWithSeveral_32 : decode cX8_secondsWithSeveral 32 = .ok (.iload 5, 2) := by decide +kernel
theorem dX8_secondsWithSeveral_34 : decode cX8_secondsWithSeveral 34 = .ok (.iload_n 2, 1) := by decide +kernel
theorem dX8_secondsWithSeveral_35 : decode cX8_secondsWithSeveral 35 = .ok (.aload_n 0, 1) := by decide +kernel
theorem dX8_secondsWithSeveral_36 : decode cX8_secondsWithSeveral 36 = .ok (.iload 4, 2) := by decide +kernel
theorem dX8_secondsWithSeveral_38 : decode cX8_secondsWithSeveral 38 = .ok (.invokevirtual 77, 3) := by decide +kernel
theorem dX8_secondsWithSeveral_41 : decode cX8_secondsWithSeveral 41 = .ok (.invokestatic 101, 3) := by decide +kernel
theorem dX8_secondsWithSeveral_44 : decode cX8_secondsWithSeveral 44 = .ok (.isub, 1) := by decide +kernel
theorem dX8_secondsWithSeveral_45 : decode cX8_secondsWithSeveral 45 = .ok (.invokestatic 101, 3) := by decide +kernel
theorem dX8_secondsWithSeveral_48 : decode cX8_secondsWithSeveral 48 = .ok (.iadd, 1) := by decide +kernel
theorem dX8_secondsWithSeveral_49 : decode cX8_secondsWithSeveral 49 = .ok (.istore_n 3, 1) := by decide +kernel
theorem dX8_secondsWithSeveral_50 : decode cX8_secondsWithSeveral 50 = .ok (.iload_n 2, 1) := by decide +kernel
theorem dX8_secondsWithSeveral_51 : decode cX8_secondsWithSeveral 51 = .ok (.iload 5, 2) := by decide +kernel
theorem dX8_secondsWithSeveral_53 : decode cX8_secondsWithSeveral 53 = .ok (.invokestatic 101, 3) := by decide +kernel
theorem dX8_secondsWithSeveral_56 : decode cX8_secondsWithSeveral 56 = .ok (.istore_n 2, 1) := by decide +kernel
theorem dX8_secondsWithSeveral_57 : decode cX8_secondsWithSeveral 57 = .ok (.iload_n 1, 1) := by decide +kernel
theorem dX8_secondsWithSeveral_58 : decode cX8_secondsWithSeveral 58 = .ok (.aload_n 0, 1) := by decide +kernel
theorem dX8_secondsWithSeveral_59 : decode cX8_secondsWithSeveral 59 = .ok (.iload 4, 2) := by decide +kernel
theorem dX8_secondsWithSeveral_61 : decode cX8_secondsWithSeveral 61 = .ok (.invokevirtual 80, 3) := by decide +kernel
theorem dX8_secondsWithSeveral_64 : decode cX8_secondsWithSeveral 64 = .ok (.invokestatic 101, 3) := by decide +kernel
theorem dX8_secondsWithSeveral_67 : decode cX8_secondsWithSeveral 67 = .ok (.istore_n 1, 1) := by decide +kernel
theorem dX8_secondsWithSeveral_68 : decode cX8_secondsWithSeveral 68 = .ok (.iinc 4 1, 3) := by decide +kernel
theorem dX8_secondsWithSeveral_71 : decode cX8_secondsWithSeveral 71 = .ok (.goto (-62), 3) := by decide +kernel
theorem dX8_secondsWithSeveral_74 : decode cX8_secondsWithSeveral 74 = .ok (.iload_n 3, 1) := by decide +kernel
theorem dX8_secondsWithSeveral_75 : decode cX8_secondsWithSeveral 75 = .ok (.ireturn, 1) := by decide +kernel
theorem dX8_longestSilence_0 : decode cX8_longestSilence 0 = .ok (.aload_n 0, 1) := by decide +kernel
theorem dX8_longestSilence_1 : decode cX8_longestSilence 1 = .ok (.iconst 0, 1) := by decide +kernel
theorem dX8_longestSilence_2 : decode cX8_longestSilence 2 = .ok (.invokevirtual 77, 3) := by decide +kernel
theorem dX8_longestSilence_5 : decode cX8_longestSilence 5 = .ok (.istore_n 2, 1) := by decide +kernel
theorem dX8_longestSilence_6 : decode cX8_longestSilence 6 = .ok (.iconst 0, 1) := by decide +kernel
theorem dX8_longestSilence_7 : decode cX8_longestSilence 7 = .ok (.istore_n 3, 1) := by decide +kernel
theorem dX8_longestSilence_8 : decode cX8_longestSilence 8 = .ok (.iconst 0, 1) := by decide +kernel
theorem dX8_longestSilence_9 : decode cX8_longestSilence 9 = .ok (.istore 4, 2) := by decide +kernel
theorem dX8_longestSilence_11 : decode cX8_longestSilence 11 = .ok (.iconst 0, 1) := by decide +kernel
theorem dX8_longestSilence_12 : decode cX8_longestSilence 12 = .ok (.istore 5, 2) := by decide +kernel
theorem dX8_longestSilence_14 : decode cX8_longestSilence 14 = .ok (.iload 5, 2) := by decide +kernel
theorem dX8_longestSilence_16 : decode cX8_longestSilence 16 = .ok (.aload_n 0, 1) := by decide +kernel
theorem dX8_longestSilence_17 : decode cX8_longestSilence 17 = .ok (.getfield 36, 3) := by decide +kernel
theorem dX8_longestSilence_20 : decode cX8_longestSilence 20 = .ok (.if_icmp .ge 45, 3) := by decide +kernel
theorem dX8_longestSilence_23 : decode cX8_longestSilence 23 = .ok (.aload_n 0, 1) := by decide +kernel
theorem dX8_longestSilence_24 : decode cX8_longestSilence 24 = .ok (.iload 5, 2) := by decide +kernel
theorem dX8_longestSilence_26 : decode cX8_longestSilence 26 = .ok (.invokevirtual 77, 3) := by decide +kernel
theorem dX8_longestSilence_29 : decode cX8_longestSilence 29 = .ok (.iload_n 2, 1) := by decide +kernel
theorem dX8_longestSilence_30 : decode cX8_longestSilence 30 = .ok (.isub, 1) := by decide +kernel
theorem dX8_longestSilence_31 : decode cX8_longestSilence 31 = .ok (.iload 4, 2) := by decide +kernel
theorem dX8_longestSilence_33 : decode cX8_longestSilence 33 = .ok (.if_icmp .le 15, 3) := by decide +kernel
theorem dX8_longestSilence_36 : decode cX8_longestSilence 36 = .ok (.aload_n 0, 1) := by decide +kernel
theorem dX8_longestSilence_37 : decode cX8_longestSilence 37 = .ok (.iload 5, 2) := by decide +kernel
theorem dX8_longestSilence_39 : decode cX8_longestSilence 39 = .ok (.invokevirtual 77, 3) := by decide +kernel
theorem dX8_longestSilence_42 : decode cX8_longestSilence 42 = .ok (.iload_n 2, 1) := by decide +kernel
theorem dX8_longestSilence_43 : decode cX8_longestSilence 43 = .ok (.isub, 1) := by decide +kernel
theorem dX8_longestSilence_44 : decode cX8_longestSilence 44 = .ok (.istore 4, 2) := by decide +kernel
theorem dX8_longestSilence_46 : decode cX8_longestSilence 46 = .ok (.iload_n 2, 1) := by decide +kernel
theorem dX8_longestSilence_47 : decode cX8_longestSilence 47 = .ok (.istore_n 3, 1) := by decide +kernel
theorem dX8_longestSilence_48 : decode cX8_longestSilence 48 = .ok (.iload_n 2, 1) := by decide +kernel
theorem dX8_longestSilence_49 : decode cX8_longestSilence 49 = .ok (.aload_n 0, 1) := by decide +kernel
theorem dX8_longestSilence_50 : decode cX8_longestSilence 50 = .ok (.iload 5, 2) := by decide +kernel
theorem dX8_longestSilence_52 : decode cX8_longestSilence 52 = .ok (.invokevirtual 80, 3) := by decide +kernel
theorem dX8_longestSilence_55 : decode cX8_longestSilence 55 = .ok (.invokestatic 101, 3) := by decide +kernel
theorem dX8_longestSilence_58 : decode cX8_longestSilence 58 = .ok (.istore_n 2, 1) := by decide +kernel
theorem dX8_longestSilence_59 : decode cX8_longestSilence 59 = .ok (.iinc 5 1, 3) := by decide +kernel
theorem dX8_longestSilence_62 : decode cX8_longestSilence 62 = .ok (.goto (-48), 3) := by decide +kernel
theorem dX8_longestSilence_65 : decode cX8_longestSilence 65 = .ok (.iload_n 1, 1) := by decide +kernel
theorem dX8_longestSilence_66 : decode cX8_longestSilence 66 = .ok (.ifCond .ne 7, 3) := by decide +kernel
theorem dX8_longestSilence_69 : decode cX8_longestSilence 69 = .ok (.iload_n 3, 1) := by decide +kernel
theorem dX8_longestSilence_70 : decode cX8_longestSilence 70 = .ok (.goto 5, 3) := by decide +kernel
theorem dX8_longestSilence_73 : decode cX8_longestSilence 73 = .ok (.iload 4, 2) := by decide +kernel
theorem dX8_longestSilence_75 : decode cX8_longestSilence 75 = .ok (.ireturn, 1) := by decide +kernel
theorem dX9_init_0 : decode cX9_init 0 = .ok (.aload_n 0, 1) := by decide +kernel
theorem dX9_init_1 : decode cX9_init 1 = .ok (.invokespecial 1, 3) := by decide +kernel
theorem dX9_init_4 : decode cX9_init 4 = .ok (.aload_n 0, 1) := by decide +kernel
theorem dX9_init_5 : decode cX9_init 5 = .ok (.new 7, 3) := by decide +kernel
theorem dX9_init_8 : decode cX9_init 8 = .ok (.dup, 1) := by decide +kernel
theorem dX9_init_9 : decode cX9_init 9 = .ok (.invokespecial 9, 3) := by decide +kernel
theorem dX9_init_12 : decode cX9_init 12 = .ok (.putfield 10, 3) := by decide +kernel
theorem dX9_init_15 : decode cX9_init 15 = .ok (.aload_n 0, 1) := by decide +kernel
theorem dX9_init_16 : decode cX9_init 16 = .ok (.new 7, 3) := by decide +kernel
theorem dX9_init_19 : decode cX9_init 19 = .ok (.dup, 1) := by decide +kernel
theorem dX9_init_20 : decode cX9_init 20 = .ok (.invokespecial 9, 3) := by decide +kernel
theorem dX9_init_23 : decode cX9_init 23 = .ok (.putfield 16, 3) := by decide +kernel
theorem dX9_init_26 : decode cX9_init 26 = .ok (.aload_n 0, 1) := by decide +kernel
theorem dX9_init_27 : decode cX9_init 27 = .ok (.new 19, 3) := by decide +kernel
theorem dX9_init_30 : decode cX9_init 30 = .ok (.dup, 1) := by decide +kernel
theorem dX9_init_31 : decode cX9_init 31 = .ok (.invokespecial 21, 3) := by decide +kernel
theorem dX9_init_34 : decode cX9_init 34 = .ok (.putfield 22, 3) := by decide +kernel
theorem dX9_init_37 : decode cX9_init 37 = .ok (.aload_n 0, 1) := by decide +kernel
theorem dX9_init_38 : decode cX9_init 38 = .ok (.new 26, 3) := by decide +kernel
theorem dX9_init_41 : decode cX9_init 41 = .ok (.dup, 1) := by decide +kernel
theorem dX9_init_42 : decode cX9_init 42 = .ok (.aload_n 0, 1) := by decide +kernel
theorem dX9_init_43 : decode cX9_init 43 = .ok (.getfield 10, 3) := by decide +kernel
theorem dX9_init_46 : decode cX9_init 46 = .ok (.invokespecial 28, 3) := by decide +kernel
theorem dX9_init_49 : decode cX9_init 49 = .ok (.putfield 31, 3) := by decide +kernel
theorem dX9_init_52 : decode cX9_init 52 = .ok (.aload_n 0, 1) := by decide +kernel
theorem dX9_init_53 : decode cX9_init 53 = .ok (.new 35, 3) := by decide +kernel
theorem dX9_init_56 : decode cX9_init 56 = .ok (.dup, 1) := by decide +kernel
theorem dX9_init_57 : decode cX9_init 57 = .ok (.invokespecial 37, 3) := by decide +kernel
theorem dX9_init_60 : decode cX9_init 60 = .ok (.putfield 38, 3) := by decide +kernel
theorem dX9_init_63 : decode cX9_init 63 = .ok (.aload_n 0, 1) := by decide +kernel
theorem dX9_init_64 : decode cX9_init 64 = .ok (.new 42, 3) := by decide +kernel
theorem dX9_init_67 : decode cX9_init 67 = .ok (.dup, 1) := by decide +kernel
theorem dX9_init_68 : decode cX9_init 68 = .ok (.aload_n 0, 1) := by decide +kernel
theorem dX9_init_69 : decode cX9_init 69 = .ok (.getfield 38, 3) := by decide +kernel
theorem dX9_init_72 : decode cX9_init 72 = .ok (.invokespecial 44, 3) := by decide +kernel
theorem dX9_init_75 : decode cX9_init 75 = .ok (.putfield 47, 3) := by decide +kernel
theorem dX9_init_78 : decode cX9_init 78 = .ok (.return_, 1) := by decide +kernel
theorem dX9_turn_0 : decode cX9_turn 0 = .ok (.aload_n 0, 1) := by decide +kernel
theorem dX9_turn_1 : decode cX9_turn 1 = .ok (.getfield 16, 3) := by decide +kernel
theorem dX9_turn_4 : decode cX9_turn 4 = .ok (.aload_n 0, 1) := by decide +kernel
theorem dX9_turn_5 : decode cX9_turn 5 = .ok (.getfield 10, 3) := by decide +kernel
theorem dX9_turn_8 : decode cX9_turn 8 = .ok (.invokevirtual 51, 3) := by decide +kernel
theorem dX9_turn_11 : decode cX9_turn 11 = .ok (.aload_n 0, 1) := by decide +kernel
theorem dX9_turn_12 : decode cX9_turn 12 = .ok (.aload_n 0, 1) := by decide +kernel
theorem dX9_turn_13 : decode cX9_turn 13 = .ok (.getfield 10, 3) := by decide +kernel
theorem dX9_turn_16 : decode cX9_turn 16 = .ok (.iload_n 1, 1) := by decide +kernel
theorem dX9_turn_17 : decode cX9_turn 17 = .ok (.iload_n 2, 1) := by decide +kernel
theorem dX9_turn_18 : decode cX9_turn 18 = .ok (.iload_n 3, 1) := by decide +kernel
theorem dX9_turn_19 : decode cX9_turn 19 = .ok (.invokevirtual 54, 3) := by decide +kernel
theorem dX9_turn_22 : decode cX9_turn 22 = .ok (.invokevirtual 58, 3) := by decide +kernel
theorem dX9_turn_25 : decode cX9_turn 25 = .ok (.ireturn, 1) := by decide +kernel
theorem dX9_say_0 : decode cX9_say 0 = .ok (.aload_n 0, 1) := by decide +kernel
theorem dX9_say_1 : decode cX9_say 1 = .ok (.getfield 16, 3) := by decide +kernel
theorem dX9_say_4 : decode cX9_say 4 = .ok (.aload_n 0, 1) := by decide +kernel
theorem dX9_say_5 : decode cX9_say 5 = .ok (.getfield 10, 3) := by decide +kernel
theorem dX9_say_8 : decode cX9_say 8 = .ok (.invokevirtual 51, 3) := by decide +kernel
theorem dX9_say_11 : decode cX9_say 11 = .ok (.aload_n 0, 1) := by decide +kernel
theorem dX9_say_12 : decode cX9_say 12 = .ok (.aload_n 0, 1) := by decide +kernel
theorem dX9_say_13 : decode cX9_say 13 = .ok (.getfield 10, 3) := by decide +kernel
theorem dX9_say_16 : decode cX9_say 16 = .ok (.iload_n 1, 1) := by decide +kernel
theorem dX9_say_17 : decode cX9_say 17 = .ok (.iload_n 2, 1) := by decide +kernel
theorem dX9_say_18 : decode cX9_say 18 = .ok (.invokevirtual 62, 3) := by decide +kernel
theorem dX9_say_21 : decode cX9_say 21 = .ok (.invokevirtual 58, 3) := by decide +kernel
theorem dX9_say_24 : decode cX9_say 24 = .ok (.ireturn, 1) := by decide +kernel
theorem dX9_part_0 : decode cX9_part 0 = .ok (.aload_n 0, 1) := by decide +kernel
theorem dX9_part_1 : decode cX9_part 1 = .ok (.getfield 16, 3) := by decide +kernel
theorem dX9_part_4 : decode cX9_part 4 = .ok (.aload_n 0, 1) := by decide +kernel
theorem dX9_part_5 : decode cX9_part 5 = .ok (.getfield 10, 3) := by decide +kernel
theorem dX9_part_8 : decode cX9_part 8 = .ok (.invokevirtual 51, 3) := by decide +kernel
theorem dX9_part_11 : decode cX9_part 11 = .ok (.aload_n 0, 1) := by decide +kernel
theorem dX9_part_12 : decode cX9_part 12 = .ok (.aload_n 0, 1) := by decide +kernel
theorem dX9_part_13 : decode cX9_part 13 = .ok (.getfield 10, 3) := by decide +kernel
theorem dX9_part_16 : decode cX9_part 16 = .ok (.iload_n 1, 1) := by decide +kernel
theorem dX9_part_17 : decode cX9_part 17 = .ok (.iload_n 2, 1) := by decide +kernel
theorem dX9_part_18 : decode cX9_part 18 = .ok (.iload_n 3, 1) := by decide +kernel
theorem dX9_part_19 : decode cX9_part 19 = .ok (.invokevirtual 66, 3) := by decide +kernel
theorem dX9_part_22 : decode cX9_part 22 = .ok (.invokevirtual 58, 3) := by decide +kernel
theorem dX9_part_25 : decode cX9_part 25 = .ok (.ireturn, 1) := by decide +kernel
theorem dX9_remove_0 : decode cX9_remove 0 = .ok (.aload_n 0, 1) := by decide +kernel
theorem dX9_remove_1 : decode cX9_remove 1 = .ok (.getfield 16, 3) := by decide +kernel
theorem dX9_remove_4 : decode cX9_remove 4 = .ok (.aload_n 0, 1) := by decide +kernel
theorem dX9_remove_5 : decode cX9_remove 5 = .ok (.getfield 10, 3) := by decide +kernel
theorem dX9_remove_8 : decode cX9_remove 8 = .ok (.invokevirtual 51, 3) := by decide +kernel
theorem dX9_remove_11 : decode cX9_remove 11 = .ok (.aload_n 0, 1) := by decide +kernel
theorem dX9_remove_12 : decode cX9_remove 12 = .ok (.aload_n 0, 1) := by decide +kernel
theorem dX9_remove_13 : decode cX9_remove 13 = .ok (.getfield 10, 3) := by decide +kernel
theorem dX9_remove_16 : decode cX9_remove 16 = .ok (.iload_n 1, 1) := by decide +kernel
theorem dX9_remove_17 : decode cX9_remove 17 = .ok (.invokevirtual 69, 3) := by decide +kernel
theorem dX9_remove_20 : decode cX9_remove 20 = .ok (.invokevirtual 58, 3) := by decide +kernel
theorem dX9_remove_23 : decode cX9_remove 23 = .ok (.ireturn, 1) := by decide +kernel
theorem dX9_correct_0 : decode cX9_correct 0 = .ok (.aload_n 0, 1) := by decide +kernel
theorem dX9_correct_1 : decode cX9_correct 1 = .ok (.getfield 16, 3) := by decide +kernel
theorem dX9_correct_4 : decode cX9_correct 4 = .ok (.aload_n 0, 1) := by decide +kernel
theorem dX9_correct_5 : decode cX9_correct 5 = .ok (.getfield 10, 3) := by decide +kernel
theorem dX9_correct_8 : decode cX9_correct 8 = .ok (.invokevirtual 51, 3) := by decide +kernel
theorem dX9_correct_11 : decode cX9_correct 11 = .ok (.aload_n 0, 1) := by decide +kernel
theorem dX9_correct_12 : decode cX9_correct 12 = .ok (.aload_n 0, 1) := by decide +kernel
theorem dX9_correct_13 : decode cX9_correct 13 = .ok (.getfield 10, 3) := by decide +kernel
theorem dX9_correct_16 : decode cX9_correct 16 = .ok (.iload_n 1, 1) := by decide +kernel
theorem dX9_correct_17 : decode cX9_correct 17 = .ok (.iload_n 2, 1) := by decide +kernel
theorem dX9_correct_18 : decode cX9_correct 18 = .ok (.invokevirtual 72, 3) := by decide +kernel
theorem dX9_correct_21 : decode cX9_correct 21 = .ok (.invokevirtual 58, 3) := by decide +kernel
theorem dX9_correct_24 : decode cX9_correct 24 = .ok (.ireturn, 1) := by decide +kernel
theorem dX9_uncorrect_0 : decode cX9_uncorrect 0 = .ok (.aload_n 0, 1) := by decide +kernel
theorem dX9_uncorrect_1 : decode cX9_uncorrect 1 = .ok (.getfield 16, 3) := by decide +kernel
theorem dX9_uncorrect_4 : decode cX9_uncorrect 4 = .ok (.aload_n 0, 1) := by decide +kernel
theorem dX9_uncorrect_5 : decode cX9_uncorrect 5 = .ok (.getfield 10, 3) := by decide +kernel
theorem dX9_uncorrect_8 : decode cX9_uncorrect 8 = .ok (.invokevirtual 51, 3) := by decide +kernel
theorem dX9_uncorrect_11 : decode cX9_uncorrect 11 = .ok (.aload_n 0, 1) := by decide +kernel
theorem dX9_uncorrect_12 : decode cX9_uncorrect 12 = .ok (.aload_n 0, 1) := by decide +kernel
theorem dX9_uncorrect_13 : decode cX9_uncorrect 13 = .ok (.getfield 10, 3) := by decide +kernel
theorem dX9_uncorrect_16 : decode cX9_uncorrect 16 = .ok (.iload_n 1, 1) := by decide +kernel
theorem dX9_uncorrect_17 : decode cX9_uncorrect 17 = .ok (.invokevirtual 75, 3) := by decide +kernel
theorem dX9_uncorrect_20 : decode cX9_uncorrect 20 = .ok (.invokevirtual 58, 3) := by decide +kernel
theorem dX9_uncorrect_23 : decode cX9_uncorrect 23 = .ok (.ireturn, 1) := by decide +kernel
theorem dX9_speaker_0 : decode cX9_speaker 0 = .ok (.aload_n 0, 1) := by decide +kernel
theorem dX9_speaker_1 : decode cX9_speaker 1 = .ok (.getfield 16, 3) := by decide +kernel
theorem dX9_speaker_4 : decode cX9_speaker 4 = .ok (.aload_n 0, 1) := by decide +kernel
theorem dX9_speaker_5 : decode cX9_speaker 5 = .ok (.getfield 10, 3) := by decide +kernel
theorem dX9_speaker_8 : decode cX9_speaker 8 = .ok (.invokevirtual 51, 3) := by decide +kernel
theorem dX9_speaker_11 : decode cX9_speaker 11 = .ok (.aload_n 0, 1) := by decide +kernel
theorem dX9_speaker_12 : decode cX9_speaker 12 = .ok (.aload_n 0, 1) := by decide +kernel
theorem dX9_speaker_13 : decode cX9_speaker 13 = .ok (.getfield 10, 3) := by decide +kernel
theorem dX9_speaker_16 : decode cX9_speaker 16 = .ok (.iload_n 1, 1) := by decide +kernel
theorem dX9_speaker_17 : decode cX9_speaker 17 = .ok (.invokevirtual 78, 3) := by decide +kernel
theorem dX9_speaker_20 : decode cX9_speaker 20 = .ok (.invokevirtual 58, 3) := by decide +kernel
theorem dX9_speaker_23 : decode cX9_speaker 23 = .ok (.ireturn, 1) := by decide +kernel
theorem dX9_give_0 : decode cX9_give 0 = .ok (.aload_n 0, 1) := by decide +kernel
theorem dX9_give_1 : decode cX9_give 1 = .ok (.getfield 16, 3) := by decide +kernel
theorem dX9_give_4 : decode cX9_give 4 = .ok (.aload_n 0, 1) := by decide +kernel
theorem dX9_give_5 : decode cX9_give 5 = .ok (.getfield 10, 3) := by decide +kernel
theorem dX9_give_8 : decode cX9_give 8 = .ok (.invokevirtual 51, 3) := by decide +kernel
theorem dX9_give_11 : decode cX9_give 11 = .ok (.aload_n 0, 1) := by decide +kernel
theorem dX9_give_12 : decode cX9_give 12 = .ok (.aload_n 0, 1) := by decide +kernel
theorem dX9_give_13 : decode cX9_give 13 = .ok (.getfield 10, 3) := by decide +kernel
theorem dX9_give_16 : decode cX9_give 16 = .ok (.iload_n 1, 1) := by decide +kernel
theorem dX9_give_17 : decode cX9_give 17 = .ok (.iload_n 2, 1) := by decide +kernel
theorem dX9_give_18 : decode cX9_give 18 = .ok (.invokevirtual 81, 3) := by decide +kernel
theorem dX9_give_21 : decode cX9_give 21 = .ok (.invokevirtual 58, 3) := by decide +kernel
theorem dX9_give_24 : decode cX9_give 24 = .ok (.ireturn, 1) := by decide +kernel
theorem dX9_join_0 : decode cX9_join 0 = .ok (.aload_n 0, 1) := by decide +kernel
theorem dX9_join_1 : decode cX9_join 1 = .ok (.getfield 16, 3) := by decide +kernel
theorem dX9_join_4 : decode cX9_join 4 = .ok (.aload_n 0, 1) := by decide +kernel
theorem dX9_join_5 : decode cX9_join 5 = .ok (.getfield 10, 3) := by decide +kernel
theorem dX9_join_8 : decode cX9_join 8 = .ok (.invokevirtual 51, 3) := by decide +kernel
theorem dX9_join_11 : decode cX9_join 11 = .ok (.aload_n 0, 1) := by decide +kernel
theorem dX9_join_12 : decode cX9_join 12 = .ok (.aload_n 0, 1) := by decide +kernel
theorem dX9_join_13 : decode cX9_join 13 = .ok (.getfield 10, 3) := by decide +kernel
theorem dX9_join_16 : decode cX9_join 16 = .ok (.iload_n 1, 1) := by decide +kernel
theorem dX9_join_17 : decode cX9_join 17 = .ok (.iload_n 2, 1) := by decide +kernel
theorem dX9_join_18 : decode cX9_join 18 = .ok (.invokevirtual 84, 3) := by decide +kernel
theorem dX9_join_21 : decode cX9_join 21 = .ok (.invokevirtual 58, 3) := by decide +kernel
theorem dX9_join_24 : decode cX9_join 24 = .ok (.ireturn, 1) := by decide +kernel
theorem dX9_set_0 : decode cX9_set 0 = .ok (.aload_n 0, 1) := by decide +kernel
theorem dX9_set_1 : decode cX9_set 1 = .ok (.getfield 16, 3) := by decide +kernel
theorem dX9_set_4 : decode cX9_set 4 = .ok (.aload_n 0, 1) := by decide +kernel
theorem dX9_set_5 : decode cX9_set 5 = .ok (.getfield 10, 3) := by decide +kernel
theorem dX9_set_8 : decode cX9_set 8 = .ok (.invokevirtual 51, 3) := by decide +kernel
theorem dX9_set_11 : decode cX9_set 11 = .ok (.aload_n 0, 1) := by decide +kernel
theorem dX9_set_12 : decode cX9_set 12 = .ok (.aload_n 0, 1) := by decide +kernel
theorem dX9_set_13 : decode cX9_set 13 = .ok (.getfield 10, 3) := by decide +kernel
theorem dX9_set_16 : decode cX9_set 16 = .ok (.iload_n 1, 1) := by decide +kernel
theorem dX9_set_17 : decode cX9_set 17 = .ok (.iload_n 2, 1) := by decide +kernel
theorem dX9_set_18 : decode cX9_set 18 = .ok (.invokevirtual 87, 3) := by decide +kernel
theorem dX9_set_21 : decode cX9_set 21 = .ok (.invokevirtual 58, 3) := by decide +kernel
theorem dX9_set_24 : decode cX9_set 24 = .ok (.ireturn, 1) := by decide +kernel
theorem dX9_turnOf_0 : decode cX9_turnOf 0 = .ok (.aload_n 0, 1) := by decide +kernel
theorem dX9_turnOf_1 : decode cX9_turnOf 1 = .ok (.getfield 31, 3) := by decide +kernel
theorem dX9_turnOf_4 : decode cX9_turnOf 4 = .ok (.iload_n 1, 1) := by decide +kernel
theorem dX9_turnOf_5 : decode cX9_turnOf 5 = .ok (.iload_n 2, 1) := by decide +kernel
theorem dX9_turnOf_6 : decode cX9_turnOf 6 = .ok (.invokevirtual 90, 3) := by decide +kernel
theorem dX9_turnOf_9 : decode cX9_turnOf 9 = .ok (.ireturn, 1) := by decide +kernel
theorem dX9_termAt_0 : decode cX9_termAt 0 = .ok (.aload_n 0, 1) := by decide +kernel
theorem dX9_termAt_1 : decode cX9_termAt 1 = .ok (.getfield 31, 3) := by decide +kernel
theorem dX9_termAt_4 : decode cX9_termAt 4 = .ok (.iload_n 1, 1) := by decide +kernel
theorem dX9_termAt_5 : decode cX9_termAt 5 = .ok (.iload_n 2, 1) := by decide +kernel
theorem dX9_termAt_6 : decode cX9_termAt 6 = .ok (.iload_n 3, 1) := by decide +kernel
theorem dX9_termAt_7 : decode cX9_termAt 7 = .ok (.invokevirtual 93, 3) := by decide +kernel
theorem dX9_termAt_10 : decode cX9_termAt 10 = .ok (.ireturn, 1) := by decide +kernel
theorem dX9_termOf_0 : decode cX9_termOf 0 = .ok (.aload_n 0, 1) := by decide +kernel
theorem dX9_termOf_1 : decode cX9_termOf 1 = .ok (.getfield 31, 3) := by decide +kernel
theorem dX9_termOf_4 : decode cX9_termOf 4 = .ok (.iload_n 1, 1) := by decide +kernel
theorem dX9_termOf_5 : decode cX9_termOf 5 = .ok (.iload_n 2, 1) := by decide +kernel
theorem dX9_termOf_6 : decode cX9_termOf 6 = .ok (.invokevirtual 96, 3) := by decide +kernel
theorem dX9_termOf_9 : decode cX9_termOf 9 = .ok (.ireturn, 1) := by decide +kernel
theorem dX9_speakerOf_0 : decode cX9_speakerOf 0 = .ok (.aload_n 0, 1) := by decide +kernel
theorem dX9_speakerOf_1 : decode cX9_speakerOf 1 = .ok (.getfield 31, 3) := by decide +kernel
theorem dX9_speakerOf_4 : decode cX9_speakerOf 4 = .ok (.iload_n 1, 1) := by decide +kernel
theorem dX9_speakerOf_5 : decode cX9_speakerOf 5 = .ok (.iload_n 2, 1) := by decide +kernel
theorem dX9_speakerOf_6 : decode cX9_speakerOf 6 = .ok (.invokevirtual 99, 3) := by decide +kernel
theorem dX9_speakerOf_9 : decode cX9_speakerOf 9 = .ok (.ireturn, 1) := by decide +kernel
theorem dX9_during_0 : decode cX9_during 0 = .ok (.aload_n 0, 1) := by decide +kernel
theorem dX9_during_1 : decode cX9_during 1 = .ok (.getfield 31, 3) := by decide +kernel
theorem dX9_during_4 : decode cX9_during 4 = .ok (.iload_n 1, 1) := by decide +kernel
theorem dX9_during_5 : decode cX9_during 5 = .ok (.iload_n 2, 1) := by decide +kernel
theorem dX9_during_6 : decode cX9_during 6 = .ok (.invokevirtual 102, 3) := by decide +kernel
theorem dX9_during_9 : decode cX9_during 9 = .ok (.ireturn, 1) := by decide +kernel
theorem dX9_interrupts_0 : decode cX9_interrupts 0 = .ok (.aload_n 0, 1) := by decide +kernel
theorem dX9_interrupts_1 : decode cX9_interrupts 1 = .ok (.getfield 31, 3) := by decide +kernel
theorem dX9_interrupts_4 : decode cX9_interrupts 4 = .ok (.iload_n 1, 1) := by decide +kernel
theorem dX9_interrupts_5 : decode cX9_interrupts 5 = .ok (.iload_n 2, 1) := by decide +kernel
theorem dX9_interrupts_6 : decode cX9_interrupts 6 = .ok (.invokevirtual 105, 3) := by decide +kernel
theorem dX9_interrupts_9 : decode cX9_interrupts 9 = .ok (.ireturn, 1) := by decide +kernel
theorem dX9_nearest_0 : decode cX9_nearest 0 = .ok (.aload_n 0, 1) := by decide +kernel
theorem dX9_nearest_1 : decode cX9_nearest 1 = .ok (.getfield 31, 3) := by decide +kernel
theorem dX9_nearest_4 : decode cX9_nearest 4 = .ok (.iload_n 1, 1) := by decide +kernel
theorem dX9_nearest_5 : decode cX9_nearest 5 = .ok (.invokevirtual 108, 3) := by decide +kernel
theorem dX9_nearest_8 : decode cX9_nearest 8 = .ok (.ireturn, 1) := by decide +kernel
theorem dX9_would_0 : decode cX9_would 0 = .ok (.aload_n 0, 1) := by decide +kernel
theorem dX9_would_1 : decode cX9_would 1 = .ok (.getfield 31, 3) := by decide +kernel
theorem dX9_would_4 : decode cX9_would 4 = .ok (.iload_n 1, 1) := by decide +kernel
theorem dX9_would_5 : decode cX9_would 5 = .ok (.iload_n 2, 1) := by decide +kernel
theorem dX9_would_6 : decode cX9_would 6 = .ok (.invokevirtual 111, 3) := by decide +kernel
theorem dX9_would_9 : decode cX9_would 9 = .ok (.ireturn, 1) := by decide +kernel
theorem dX9_together_0 : decode cX9_together 0 = .ok (.aload_n 0, 1) := by decide +kernel
theorem dX9_together_1 : decode cX9_together 1 = .ok (.getfield 31, 3) := by decide +kernel
theorem dX9_together_4 : decode cX9_together 4 = .ok (.iload_n 1, 1) := by decide +kernel
theorem dX9_together_5 : decode cX9_together 5 = .ok (.invokevirtual 114, 3) := by decide +kernel
theorem dX9_together_8 : decode cX9_together 8 = .ok (.ireturn, 1) := by decide +kernel
theorem dX9_silence_0 : decode cX9_silence 0 = .ok (.aload_n 0, 1) := by decide +kernel
theorem dX9_silence_1 : decode cX9_silence 1 = .ok (.getfield 31, 3) := by decide +kernel
theorem dX9_silence_4 : decode cX9_silence 4 = .ok (.iload_n 1, 1) := by decide +kernel
theorem dX9_silence_5 : decode cX9_silence 5 = .ok (.invokevirtual 117, 3) := by decide +kernel
theorem dX9_silence_8 : decode cX9_silence 8 = .ok (.ireturn, 1) := by decide +kernel
theorem dX9_doubtful_0 : decode cX9_doubtful 0 = .ok (.aload_n 0, 1) := by decide +kernel
theorem dX9_doubtful_1 : decode cX9_doubtful 1 = .ok (.getfield 31, 3) := by decide +kernel
theorem dX9_doubtful_4 : decode cX9_doubtful 4 = .ok (.iload_n 1, 1) := by decide +kernel
theorem dX9_doubtful_5 : decode cX9_doubtful 5 = .ok (.invokevirtual 120, 3) := by decide +kernel
theorem dX9_doubtful_8 : decode cX9_doubtful 8 = .ok (.ireturn, 1) := by decide +kernel
theorem dX9_count_0 : decode cX9_count 0 = .ok (.iload_n 1, 1) := by decide +kernel
theorem dX9_count_1 : decode cX9_count 1 = .ok (.lookupswitch 43 #[(8, 27), (9, 35)], 27) := by decide +kernel
theorem dX9_count_28 : decode cX9_count 28 = .ok (.aload_n 0, 1) := by decide +kernel
theorem dX9_count_29 : decode cX9_count 29 = .ok (.getfield 22, 3) := by decide +kernel
theorem dX9_count_32 : decode cX9_count 32 = .ok (.invokevirtual 123, 3) := by decide +kernel
theorem dX9_count_35 : decode cX9_count 35 = .ok (.ireturn, 1) := by decide +kernel
theorem dX9_count_36 : decode cX9_count 36 = .ok (.aload_n 0, 1) := by decide +kernel
theorem dX9_count_37 : decode cX9_count 37 = .ok (.getfield 38, 3) := by decide +kernel
theorem dX9_count_40 : decode cX9_count 40 = .ok (.invokevirtual 127, 3) := by decide +kernel
theorem dX9_count_43 : decode cX9_count 43 = .ok (.ireturn, 1) := by decide +kernel
theorem dX9_count_44 : decode cX9_count 44 = .ok (.aload_n 0, 1) := by decide +kernel
theorem dX9_count_45 : decode cX9_count 45 = .ok (.getfield 31, 3) := by decide +kernel
theorem dX9_count_48 : decode cX9_count 48 = .ok (.iload_n 1, 1) := by decide +kernel
theorem dX9_count_49 : decode cX9_count 49 = .ok (.invokevirtual 130, 3) := by decide +kernel
theorem dX9_count_52 : decode cX9_count 52 = .ok (.ireturn, 1) := by decide +kernel
theorem dX9_undo_0 : decode cX9_undo 0 = .ok (.aload_n 0, 1) := by decide +kernel
theorem dX9_undo_1 : decode cX9_undo 1 = .ok (.getfield 22, 3) := by decide +kernel
theorem dX9_undo_4 : decode cX9_undo 4 = .ok (.invokevirtual 133, 3) := by decide +kernel
theorem dX9_undo_7 : decode cX9_undo 7 = .ok (.ifCond .eq 6, 3) := by decide +kernel
theorem dX9_undo_10 : decode cX9_undo 10 = .ok (.ldc 137, 2) := by decide +kernel
theorem dX9_undo_12 : decode cX9_undo 12 = .ok (.ireturn, 1) := by decide +kernel
theorem dX9_undo_13 : decode cX9_undo 13 = .ok (.aload_n 0, 1) := by decide +kernel
theorem dX9_undo_14 : decode cX9_undo 14 = .ok (.getfield 22, 3) := by decide +kernel
theorem dX9_undo_17 : decode cX9_undo 17 = .ok (.aload_n 0, 1) := by decide +kernel
theorem dX9_undo_18 : decode cX9_undo 18 = .ok (.getfield 10, 3) := by decide +kernel
theorem dX9_undo_21 : decode cX9_undo 21 = .ok (.invokevirtual 138, 3) := by decide +kernel
theorem dX9_undo_24 : decode cX9_undo 24 = .ok (.ireturn, 1) := by decide +kernel
theorem dX9_type_0 : decode cX9_type 0 = .ok (.iload_n 1, 1) := by decide +kernel
theorem dX9_type_1 : decode cX9_type 1 = .ok (.bipush 32, 2) := by decide +kernel
theorem dX9_type_3 : decode cX9_type 3 = .ok (.bipush 126, 2) := by decide +kernel
theorem dX9_type_5 : decode cX9_type 5 = .ok (.invokestatic 142, 3) := by decide +kernel
theorem dX9_type_8 : decode cX9_type 8 = .ok (.ifCond .ne 6, 3) := by decide +kernel
theorem dX9_type_11 : decode cX9_type 11 = .ok (.ldc 146, 2) := by decide +kernel
theorem dX9_type_13 : decode cX9_type 13 = .ok (.ireturn, 1) := by decide +kernel
theorem dX9_type_14 : decode cX9_type 14 = .ok (.aload_n 0, 1) := by decide +kernel
theorem dX9_type_15 : decode cX9_type 15 = .ok (.getfield 38, 3) := by decide +kernel
theorem dX9_type_18 : decode cX9_type 18 = .ok (.invokevirtual 147, 3) := by decide +kernel
theorem dX9_type_21 : decode cX9_type 21 = .ok (.ifCond .eq 6, 3) := by decide +kernel
theorem dX9_type_24 : decode cX9_type 24 = .ok (.ldc 150, 2) := by decide +kernel
theorem dX9_type_26 : decode cX9_type 26 = .ok (.ireturn, 1) := by decide +kernel
theorem dX9_type_27 : decode cX9_type 27 = .ok (.aload_n 0, 1) := by decide +kernel
theorem dX9_type_28 : decode cX9_type 28 = .ok (.getfield 38, 3) := by decide +kernel
theorem dX9_type_31 : decode cX9_type 31 = .ok (.iload_n 1, 1) := by decide +kernel
theorem dX9_type_32 : decode cX9_type 32 = .ok (.invokevirtual 151, 3) := by decide +kernel
theorem dX9_type_35 : decode cX9_type 35 = .ok (.ireturn, 1) := by decide +kernel
theorem dX9_clearText_0 : decode cX9_clearText 0 = .ok (.aload_n 0, 1) := by decide +kernel
theorem dX9_clearText_1 : decode cX9_clearText 1 = .ok (.getfield 38, 3) := by decide +kernel
theorem dX9_clearText_4 : decode cX9_clearText 4 = .ok (.invokevirtual 154, 3) := by decide +kernel
theorem dX9_clearText_7 : decode cX9_clearText 7 = .ok (.ireturn, 1) := by decide +kernel
theorem dX9_fault_0 : decode cX9_fault 0 = .ok (.iload_n 1, 1) := by decide +kernel
theorem dX9_fault_1 : decode cX9_fault 1 = .ok (.iconst 0, 1) := by decide +kernel
theorem dX9_fault_2 : decode cX9_fault 2 = .ok (.iconst 2, 1) := by decide +kernel
theorem dX9_fault_3 : decode cX9_fault 3 = .ok (.invokestatic 142, 3) := by decide +kernel
theorem dX9_fault_6 : decode cX9_fault 6 = .ok (.ifCond .ne 6, 3) := by decide +kernel
theorem dX9_fault_9 : decode cX9_fault 9 = .ok (.ldc 146, 2) := by decide +kernel
theorem dX9_fault_11 : decode cX9_fault 11 = .ok (.ireturn, 1) := by decide +kernel
theorem dX9_fault_12 : decode cX9_fault 12 = .ok (.aload_n 0, 1) := by decide +kernel
theorem dX9_fault_13 : decode cX9_fault 13 = .ok (.getfield 47, 3) := by decide +kernel
theorem dX9_fault_16 : decode cX9_fault 16 = .ok (.aload_n 0, 1) := by decide +kernel
theorem dX9_fault_17 : decode cX9_fault 17 = .ok (.getfield 10, 3) := by decide +kernel
theorem dX9_fault_20 : decode cX9_fault 20 = .ok (.invokevirtual 157, 3) := by decide +kernel
theorem dX9_fault_23 : decode cX9_fault 23 = .ok (.aload_n 0, 1) := by decide +kernel
theorem dX9_fault_24 : decode cX9_fault 24 = .ok (.getfield 47, 3) := by decide +kernel
theorem dX9_fault_27 : decode cX9_fault 27 = .ok (.invokevirtual 160, 3) := by decide +kernel
theorem dX9_fault_30 : decode cX9_fault 30 = .ok (.ifCond .ne 6, 3) := by decide +kernel
theorem dX9_fault_33 : decode cX9_fault 33 = .ok (.ldc 163, 2) := by decide +kernel
theorem dX9_fault_35 : decode cX9_fault 35 = .ok (.ireturn, 1) := by decide +kernel
theorem dX9_fault_36 : decode cX9_fault 36 = .ok (.iload_n 1, 1) := by decide +kernel
theorem dX9_fault_37 : decode cX9_fault 37 = .ok (.lookupswitch 43 #[(0, 27), (1, 35)], 27) := by decide +kernel
theorem dX9_fault_64 : decode cX9_fault 64 = .ok (.aload_n 0, 1) := by decide +kernel
theorem dX9_fault_65 : decode cX9_fault 65 = .ok (.getfield 47, 3) := by decide +kernel
theorem dX9_fault_68 : decode cX9_fault 68 = .ok (.invokevirtual 164, 3) := by decide +kernel
theorem dX9_fault_71 : decode cX9_fault 71 = .ok (.ireturn, 1) := by decide +kernel
theorem dX9_fault_72 : decode cX9_fault 72 = .ok (.aload_n 0, 1) := by decide +kernel
theorem dX9_fault_73 : decode cX9_fault 73 = .ok (.getfield 47, 3) := by decide +kernel
theorem dX9_fault_76 : decode cX9_fault 76 = .ok (.invokevirtual 167, 3) := by decide +kernel
theorem dX9_fault_79 : decode cX9_fault 79 = .ok (.ireturn, 1) := by decide +kernel
theorem dX9_fault_80 : decode cX9_fault 80 = .ok (.aload_n 0, 1) := by decide +kernel
theorem dX9_fault_81 : decode cX9_fault 81 = .ok (.getfield 47, 3) := by decide +kernel
theorem dX9_fault_84 : decode cX9_fault 84 = .ok (.invokevirtual 170, 3) := by decide +kernel
theorem dX9_fault_87 : decode cX9_fault 87 = .ok (.ireturn, 1) := by decide +kernel
theorem dX9_play_0 : decode cX9_play 0 = .ok (.aload_n 0, 1) := by decide +kernel
theorem dX9_play_1 : decode cX9_play 1 = .ok (.getfield 47, 3) := by decide +kernel
theorem dX9_play_4 : decode cX9_play 4 = .ok (.aload_n 0, 1) := by decide +kernel
theorem dX9_play_5 : decode cX9_play 5 = .ok (.getfield 10, 3) := by decide +kernel
theorem dX9_play_8 : decode cX9_play 8 = .ok (.invokevirtual 157, 3) := by decide +kernel
theorem dX9_play_11 : decode cX9_play 11 = .ok (.aload_n 0, 1) := by decide +kernel
theorem dX9_play_12 : decode cX9_play 12 = .ok (.getfield 47, 3) := by decide +kernel
theorem dX9_play_15 : decode cX9_play 15 = .ok (.invokevirtual 160, 3) := by decide +kernel
theorem dX9_play_18 : decode cX9_play 18 = .ok (.ifCond .eq 6, 3) := by decide +kernel
theorem dX9_play_21 : decode cX9_play 21 = .ok (.ldc 137, 2) := by decide +kernel
theorem dX9_play_23 : decode cX9_play 23 = .ok (.ireturn, 1) := by decide +kernel
theorem dX9_play_24 : decode cX9_play 24 = .ok (.aload_n 0, 1) := by decide +kernel
theorem dX9_play_25 : decode cX9_play 25 = .ok (.getfield 16, 3) := by decide +kernel
theorem dX9_play_28 : decode cX9_play 28 = .ok (.aload_n 0, 1) := by decide +kernel
theorem dX9_play_29 : decode cX9_play 29 = .ok (.getfield 10, 3) := by decide +kernel
theorem dX9_play_32 : decode cX9_play 32 = .ok (.invokevirtual 51, 3) := by decide +kernel
theorem dX9_play_35 : decode cX9_play 35 = .ok (.aload_n 0, 1) := by decide +kernel
theorem dX9_play_36 : decode cX9_play 36 = .ok (.getfield 10, 3) := by decide +kernel
theorem dX9_play_39 : decode cX9_play 39 = .ok (.aload_n 0, 1) := by decide +kernel
theorem dX9_play_40 : decode cX9_play 40 = .ok (.getfield 47, 3) := by decide +kernel
theorem dX9_play_43 : decode cX9_play 43 = .ok (.invokevirtual 173, 3) := by decide +kernel
theorem dX9_play_46 : decode cX9_play 46 = .ok (.invokevirtual 51, 3) := by decide +kernel
theorem dX9_play_49 : decode cX9_play 49 = .ok (.aload_n 0, 1) := by decide +kernel
theorem dX9_play_50 : decode cX9_play 50 = .ok (.aload_n 0, 1) := by decide +kernel
theorem dX9_play_51 : decode cX9_play 51 = .ok (.getfield 47, 3) := by decide +kernel
theorem dX9_play_54 : decode cX9_play 54 = .ok (.invokevirtual 177, 3) := by decide +kernel
theorem dX9_play_57 : decode cX9_play 57 = .ok (.invokevirtual 58, 3) := by decide +kernel
theorem dX9_play_60 : decode cX9_play 60 = .ok (.ireturn, 1) := by decide +kernel
theorem dX9_recorded_0 : decode cX9_recorded 0 = .ok (.iload_n 1, 1) := by decide +kernel
theorem dX9_recorded_1 : decode cX9_recorded 1 = .ok (.ifCond .lt 14, 3) := by decide +kernel
theorem dX9_recorded_4 : decode cX9_recorded 4 = .ok (.aload_n 0, 1) := by decide +kernel
theorem dX9_recorded_5 : decode cX9_recorded 5 = .ok (.getfield 22, 3) := by decide +kernel
theorem dX9_recorded_8 : decode cX9_recorded 8 = .ok (.aload_n 0, 1) := by decide +kernel
theorem dX9_recorded_9 : decode cX9_recorded 9 = .ok (.getfield 16, 3) := by decide +kernel
theorem dX9_recorded_12 : decode cX9_recorded 12 = .ok (.invokevirtual 180, 3) := by decide +kernel
theorem dX9_recorded_15 : decode cX9_recorded 15 = .ok (.iload_n 1, 1) := by decide +kernel
theorem dX9_recorded_16 : decode cX9_recorded 16 = .ok (.ireturn, 1) := by decide +kernel
theorem dX9_isWithin_0 : decode cX9_isWithin 0 = .ok (.iload_n 0, 1) := by decide +kernel
theorem dX9_isWithin_1 : decode cX9_isWithin 1 = .ok (.iload_n 1, 1) := by decide +kernel
theorem dX9_isWithin_2 : decode cX9_isWithin 2 = .ok (.if_icmp .lt 12, 3) := by decide +kernel
theorem dX9_isWithin_5 : decode cX9_isWithin 5 = .ok (.iload_n 0, 1) := by decide +kernel
theorem dX9_isWithin_6 : decode cX9_isWithin 6 = .ok (.iload_n 2, 1) := by decide +kernel
theorem dX9_isWithin_7 : decode cX9_isWithin 7 = .ok (.if_icmp .gt 7, 3) := by decide +kernel
theorem dX9_isWithin_10 : decode cX9_isWithin 10 = .ok (.iconst 1, 1) := by decide +kernel
theorem dX9_isWithin_11 : decode cX9_isWithin 11 = .ok (.goto 4, 3) := by decide +kernel
theorem dX9_isWithin_14 : decode cX9_isWithin 14 = .ok (.iconst 0, 1) := by decide +kernel
theorem dX9_isWithin_15 : decode cX9_isWithin 15 = .ok (.ireturn, 1) := by decide +kernel
theorem dX10_init_0 : decode cX10_init 0 = .ok (.aload_n 0, 1) := by decide +kernel
theorem dX10_init_1 : decode cX10_init 1 = .ok (.invokespecial 1, 3) := by decide +kernel
theorem dX10_init_4 : decode cX10_init 4 = .ok (.aload_n 0, 1) := by decide +kernel
theorem dX10_init_5 : decode cX10_init 5 = .ok (.sipush 284, 3) := by decide +kernel
theorem dX10_init_8 : decode cX10_init 8 = .ok (.newarray .int, 2) := by decide +kernel
theorem dX10_init_10 : decode cX10_init 10 = .ok (.putfield 7, 3) := by decide +kernel
theorem dX10_init_13 : decode cX10_init 13 = .ok (.aload_n 0, 1) := by decide +kernel
theorem dX10_init_14 : decode cX10_init 14 = .ok (.sipush 1136, 3) := by decide +kernel
theorem dX10_init_17 : decode cX10_init 17 = .ok (.newarray .int, 2) := by decide +kernel
theorem dX10_init_19 : decode cX10_init 19 = .ok (.putfield 13, 3) := by decide +kernel
theorem dX10_init_22 : decode cX10_init 22 = .ok (.aload_n 0, 1) := by decide +kernel
theorem dX10_init_23 : decode cX10_init 23 = .ok (.sipush 284, 3) := by decide +kernel
theorem dX10_init_26 : decode cX10_init 26 = .ok (.newarray .int, 2) := by decide +kernel
theorem dX10_init_28 : decode cX10_init 28 = .ok (.putfield 16, 3) := by decide +kernel
theorem dX10_init_31 : decode cX10_init 31 = .ok (.aload_n 0, 1) := by decide +kernel
theorem dX10_init_32 : decode cX10_init 32 = .ok (.bipush 60, 2) := by decide +kernel
theorem dX10_init_34 : decode cX10_init 34 = .ok (.newarray .int, 2) := by decide +kernel
theorem dX10_init_36 : decode cX10_init 36 = .ok (.putfield 19, 3) := by decide +kernel
theorem dX10_init_39 : decode cX10_init 39 = .ok (.aload_n 0, 1) := by decide +kernel
theorem dX10_init_40 : decode cX10_init 40 = .ok (.bipush 13, 2) := by decide +kernel
theorem dX10_init_42 : decode cX10_init 42 = .ok (.newarray .int, 2) := by decide +kernel
theorem dX10_init_44 : decode cX10_init 44 = .ok (.putfield 22, 3) := by decide +kernel
theorem dX10_init_47 : decode cX10_init 47 = .ok (.aload_n 0, 1) := by decide +kernel
theorem dX10_init_48 : decode cX10_init 48 = .ok (.bipush 16, 2) := by decide +kernel
theorem dX10_init_50 : decode cX10_init 50 = .ok (.newarray .int, 2) := by decide +kernel
theorem dX10_init_52 : decode cX10_init 52 = .ok (.putfield 25, 3) := by decide +kernel
theorem dX10_init_55 : decode cX10_init 55 = .ok (.aload_n 0, 1) := by decide +kernel
theorem dX10_init_56 : decode cX10_init 56 = .ok (.iconst 3, 1) := by decide +kernel
theorem dX10_init_57 : decode cX10_init 57 = .ok (.newarray .int, 2) := by decide +kernel
theorem dX10_init_59 : decode cX10_init 59 = .ok (.putfield 28, 3) := by decide +kernel
theorem dX10_init_62 : decode cX10_init 62 = .ok (.iconst 0, 1) := by decide +kernel
theorem dX10_init_63 : decode cX10_init 63 = .ok (.istore_n 1, 1) := by decide +kernel
theorem dX10_init_64 : decode cX10_init 64 = .ok (.iload_n 1, 1) := by decide +kernel
theorem dX10_init_65 : decode cX10_init 65 = .ok (.bipush 16, 2) := by decide +kernel
theorem dX10_init_67 : decode cX10_init 67 = .ok (.if_icmp .ge 20, 3) := by decide +kernel
theorem dX10_init_70 : decode cX10_init 70 = .ok (.aload_n 0, 1) := by decide +kernel
theorem dX10_init_71 : decode cX10_init 71 = .ok (.getfield 7, 3) := by decide +kernel
theorem dX10_init_74 : decode cX10_init 74 = .ok (.sipush 260, 3) := by decide +kernel
theorem dX10_init_77 : decode cX10_init 77 = .ok (.iload_n 1, 1) := by decide +kernel
theorem dX10_init_78 : decode cX10_init 78 = .ok (.iadd, 1) := by decide +kernel
theorem dX10_init_79 : decode cX10_init 79 = .ok (.iconst (-1), 1) := by decide +kernel
theorem dX10_init_80 : decode cX10_init 80 = .ok (.iastore, 1) := by decide +kernel
theorem dX10_init_81 : decode cX10_init 81 = .ok (.iinc 1 1, 3) := by decide +kernel
theorem dX10_init_84 : decode cX10_init 84 = .ok (.goto (-20), 3) := by decide +kernel
theorem dX10_init_87 : decode cX10_init 87 = .ok (.aload_n 0, 1) := by decide +kernel
theorem dX10_init_88 : decode cX10_init 88 = .ok (.getfield 7, 3) := by decide +kernel
theorem dX10_init_91 : decode cX10_init 91 = .ok (.sipush 283, 3) := by decide +kernel
theorem dX10_init_94 : decode cX10_init 94 = .ok (.bipush 30, 2) := by decide +kernel
theorem dX10_init_96 : decode cX10_init 96 = .ok (.iastore, 1) := by decide +kernel
theorem dX10_init_97 : decode cX10_init 97 = .ok (.return_, 1) := by decide +kernel
theorem dX10_in_0 : decode cX10_in 0 = .ok (.iload_n 0, 1) := by decide +kernel
theorem dX10_in_1 : decode cX10_in 1 = .ok (.iload_n 1, 1) := by decide +kernel
theorem dX10_in_2 : decode cX10_in 2 = .ok (.if_icmp .lt 12, 3) := by decide +kernel
theorem dX10_in_5 : decode cX10_in 5 = .ok (.iload_n 0, 1) := by decide +kernel
theorem dX10_in_6 : decode cX10_in 6 = .ok (.iload_n 2, 1) := by decide +kernel
theorem dX10_in_7 : decode cX10_in 7 = .ok (.if_icmp .gt 7, 3) := by decide +kernel
theorem dX10_in_10 : decode cX10_in 10 = .ok (.iconst 1, 1) := by decide +kernel
theorem dX10_in_11 : decode cX10_in 11 = .ok (.goto 4, 3) := by decide +kernel
theorem dX10_in_14 : decode cX10_in 14 = .ok (.iconst 0, 1) := by decide +kernel
theorem dX10_in_15 : decode cX10_in 15 = .ok (.ireturn, 1) := by decide +kernel
theorem dX10_copies_0 : decode cX10_copies 0 = .ok (.iconst 0, 1) := by decide +kernel
theorem dX10_copies_1 : decode cX10_copies 1 = .ok (.istore_n 2, 1) := by decide +kernel
theorem dX10_copies_2 : decode cX10_copies 2 = .ok (.iload_n 2, 1) := by decide +kernel
theorem dX10_copies_3 : decode cX10_copies 3 = .ok (.sipush 284, 3) := by decide +kernel
theorem dX10_copies_6 : decode cX10_copies 6 = .ok (.if_icmp .ge 15, 3) := by decide +kernel
theorem dX10_copies_9 : decode cX10_copies 9 = .ok (.aload_n 1, 1) := by decide +kernel
theorem dX10_copies_10 : decode cX10_copies 10 = .ok (.iload_n 2, 1) := by decide +kernel
theorem dX10_copies_11 : decode cX10_copies 11 = .ok (.aload_n 0, 1) := by decide +kernel
theorem dX10_copies_12 : decode cX10_copies 12 = .ok (.iload_n 2, 1) := by decide +kernel
theorem dX10_copies_13 : decode cX10_copies 13 = .ok (.iaload, 1) := by decide +kernel
theorem dX10_copies_14 : decode cX10_copies 14 = .ok (.iastore, 1) := by decide +kernel
theorem dX10_copies_15 : decode cX10_copies 15 = .ok (.iinc 2 1, 3) := by decide +kernel
theorem dX10_copies_18 : decode cX10_copies 18 = .ok (.goto (-16), 3) := by decide +kernel
theorem dX10_copies_21 : decode cX10_copies 21 = .ok (.return_, 1) := by decide +kernel
theorem dX10_changes_0 : decode cX10_changes 0 = .ok (.aload_n 0, 1) := by decide +kernel
theorem dX10_changes_1 : decode cX10_changes 1 = .ok (.getfield 31, 3) := by decide +kernel
theorem dX10_changes_4 : decode cX10_changes 4 = .ok (.ifCond .eq 4, 3) := by decide +kernel
theorem dX10_changes_7 : decode cX10_changes 7 = .ok (.return_, 1) := by decide +kernel
theorem dX10_changes_8 : decode cX10_changes 8 = .ok (.aload_n 0, 1) := by decide +kernel
theorem dX10_changes_9 : decode cX10_changes 9 = .ok (.getfield 35, 3) := by decide +kernel
theorem dX10_changes_12 : decode cX10_changes 12 = .ok (.iconst 4, 1) := by decide +kernel
theorem dX10_changes_13 : decode cX10_changes 13 = .ok (.if_icmp .ne 44, 3) := by decide +kernel
theorem dX10_changes_16 : decode cX10_changes 16 = .ok (.iconst 0, 1) := by decide +kernel
theorem dX10_changes_17 : decode cX10_changes 17 = .ok (.istore_n 1, 1) := by decide +kernel
theorem dX10_changes_18 : decode cX10_changes 18 = .ok (.iload_n 1, 1) := by decide +kernel
theorem dX10_changes_19 : decode cX10_changes 19 = .ok (.sipush 852, 3) := by decide +kernel
theorem dX10_changes_22 : decode cX10_changes 22 = .ok (.if_icmp .ge 25, 3) := by decide +kernel
theorem dX10_changes_25 : decode cX10_changes 25 = .ok (.aload_n 0, 1) := by decide +kernel
theorem dX10_changes_26 : decode cX10_changes 26 = .ok (.getfield 13, 3) := by decide +kernel
theorem dX10_changes_29 : decode cX10_changes 29 = .ok (.iload_n 1, 1) := by decide +kernel
theorem dX10_changes_30 : decode cX10_changes 30 = .ok (.aload_n 0, 1) := by decide +kernel
theorem dX10_changes_31 : decode cX10_changes 31 = .ok (.getfield 13, 3) := by decide +kernel
theorem dX10_changes_34 : decode cX10_changes 34 = .ok (.iload_n 1, 1) := by decide +kernel
theorem dX10_changes_35 : decode cX10_changes 35 = .ok (.sipush 284, 3) := by decide +kernel
theorem dX10_changes_38 : decode cX10_changes 38 = .ok (.iadd, 1) := by decide +kernel
theorem dX10_changes_39 : decode cX10_changes 39 = .ok (.iaload, 1) := by decide +kernel
theorem dX10_changes_40 : decode cX10_changes 40 = .ok (.iastore, 1) := by decide +kernel
theorem dX10_changes_41 : decode cX10_changes 41 = .ok (.iinc 1 1, 3) := by decide +kernel
theorem dX10_changes_44 : decode cX10_changes 44 = .ok (.goto (-26), 3) := by decide +kernel
theorem dX10_changes_47 : decode cX10_changes 47 = .ok (.aload_n 0, 1) := by decide +kernel
theorem dX10_changes_48 : decode cX10_changes 48 = .ok (.dup, 1) := by decide +kernel
theorem dX10_changes_49 : decode cX10_changes 49 = .ok (.getfield 35, 3) := by decide +kernel
end
section
theorem dX10_changes_52 : decode cX10_changes 52 = .ok (.iconst 1, 1) := by decide +kernel
theorem dX10_changes_53 : decode cX10_changes 53 = .ok (.isub, 1) := by decide +kernel
theorem dX10_changes_54 : decode cX10_changes 54 = .ok (.putfield 35, 3) := by decide +kernel
theorem dX10_changes_57 : decode cX10_changes 57 = .ok (.iconst 0, 1) := by decide +kernel
theorem dX10_changes_58 : decode cX10_changes 58 = .ok (.istore_n 1, 1) := by decide +kernel
theorem dX10_changes_59 : decode cX10_changes 59 = .ok (.iload_n 1, 1) := by decide +kernel
theorem dX10_changes_60 : decode cX10_changes 60 = .ok (.sipush 284, 3) := by decide +kernel
theorem dX10_changes_63 : decode cX10_changes 63 = .ok (.if_icmp .ge 30, 3) := by decide +kernel
theorem dX10_changes_66 : decode cX10_changes 66 = .ok (.aload_n 0, 1) := by decide +kernel
theorem dX10_changes_67 : decode cX10_changes 67 = .ok (.getfield 13, 3) := by decide +kernel
theorem dX10_changes_70 : decode cX10_changes 70 = .ok (.sipush 284, 3) := by decide +kernel
theorem dX10_changes_73 : decode cX10_changes 73 = .ok (.aload_n 0, 1) := by decide +kernel
theorem dX10_changes_74 : decode cX10_changes 74 = .ok (.getfield 35, 3) := by decide +kernel
theorem dX10_changes_77 : decode cX10_changes 77 = .ok (.imul, 1) := by decide +kernel
theorem dX10_changes_78 : decode cX10_changes 78 = .ok (.iload_n 1, 1) := by decide +kernel
theorem dX10_changes_79 : decode cX10_changes 79 = .ok (.iadd, 1) := by decide +kernel
theorem dX10_changes_80 : decode cX10_changes 80 = .ok (.aload_n 0, 1) := by decide +kernel
theorem dX10_changes_81 : decode cX10_changes 81 = .ok (.getfield 7, 3) := by decide +kernel
theorem dX10_changes_84 : decode cX10_changes 84 = .ok (.iload_n 1, 1) := by decide +kernel
theorem dX10_changes_85 : decode cX10_changes 85 = .ok (.iaload, 1) := by decide +kernel
theorem dX10_changes_86 : decode cX10_changes 86 = .ok (.iastore, 1) := by decide +kernel
theorem dX10_changes_87 : decode cX10_changes 87 = .ok (.iinc 1 1, 3) := by decide +kernel
theorem dX10_changes_90 : decode cX10_changes 90 = .ok (.goto (-31), 3) := by decide +kernel
theorem dX10_changes_93 : decode cX10_changes 93 = .ok (.aload_n 0, 1) := by decide +kernel
theorem dX10_changes_94 : decode cX10_changes 94 = .ok (.dup, 1) := by decide +kernel
theorem dX10_changes_95 : decode cX10_changes 95 = .ok (.getfield 35, 3) := by decide +kernel
theorem dX10_changes_98 : decode cX10_changes 98 = .ok (.iconst 1, 1) := by decide +kernel
theorem dX10_changes_99 : decode cX10_changes 99 = .ok (.iadd, 1) := by decide +kernel
theorem dX10_changes_100 : decode cX10_changes 100 = .ok (.putfield 35, 3) := by decide +kernel
theorem dX10_changes_103 : decode cX10_changes 103 = .ok (.return_, 1) := by decide +kernel
theorem dX10_of_0 : decode cX10_of 0 = .ok (.aload_n 0, 1) := by decide +kernel
theorem dX10_of_1 : decode cX10_of 1 = .ok (.getfield 7, 3) := by decide +kernel
theorem dX10_of_4 : decode cX10_of 4 = .ok (.bipush 13, 2) := by decide +kernel
theorem dX10_of_6 : decode cX10_of 6 = .ok (.iload_n 1, 1) := by decide +kernel
theorem dX10_of_7 : decode cX10_of 7 = .ok (.imul, 1) := by decide +kernel
theorem dX10_of_8 : decode cX10_of 8 = .ok (.iload_n 2, 1) := by decide +kernel
theorem dX10_of_9 : decode cX10_of 9 = .ok (.iadd, 1) := by decide +kernel
theorem dX10_of_10 : decode cX10_of 10 = .ok (.iaload, 1) := by decide +kernel
theorem dX10_of_11 : decode cX10_of 11 = .ok (.ireturn, 1) := by decide +kernel
theorem dX10_sets_0 : decode cX10_sets 0 = .ok (.aload_n 0, 1) := by decide +kernel
theorem dX10_sets_1 : decode cX10_sets 1 = .ok (.getfield 7, 3) := by decide +kernel
theorem dX10_sets_4 : decode cX10_sets 4 = .ok (.bipush 13, 2) := by decide +kernel
theorem dX10_sets_6 : decode cX10_sets 6 = .ok (.iload_n 1, 1) := by decide +kernel
theorem dX10_sets_7 : decode cX10_sets 7 = .ok (.imul, 1) := by decide +kernel
theorem dX10_sets_8 : decode cX10_sets 8 = .ok (.iload_n 2, 1) := by decide +kernel
theorem dX10_sets_9 : decode cX10_sets 9 = .ok (.iadd, 1) := by decide +kernel
theorem dX10_sets_10 : decode cX10_sets 10 = .ok (.iload_n 3, 1) := by decide +kernel
theorem dX10_sets_11 : decode cX10_sets 11 = .ok (.iastore, 1) := by decide +kernel
theorem dX10_sets_12 : decode cX10_sets 12 = .ok (.return_, 1) := by decide +kernel
theorem dX10_isTurn_0 : decode cX10_isTurn 0 = .ok (.iload_n 1, 1) := by decide +kernel
theorem dX10_isTurn_1 : decode cX10_isTurn 1 = .ok (.ifCond .lt 19, 3) := by decide +kernel
theorem dX10_isTurn_4 : decode cX10_isTurn 4 = .ok (.iload_n 1, 1) := by decide +kernel
theorem dX10_isTurn_5 : decode cX10_isTurn 5 = .ok (.aload_n 0, 1) := by decide +kernel
theorem dX10_isTurn_6 : decode cX10_isTurn 6 = .ok (.getfield 7, 3) := by decide +kernel
theorem dX10_isTurn_9 : decode cX10_isTurn 9 = .ok (.sipush 282, 3) := by decide +kernel
theorem dX10_isTurn_12 : decode cX10_isTurn 12 = .ok (.iaload, 1) := by decide +kernel
theorem dX10_isTurn_13 : decode cX10_isTurn 13 = .ok (.if_icmp .ge 7, 3) := by decide +kernel
theorem dX10_isTurn_16 : decode cX10_isTurn 16 = .ok (.iconst 1, 1) := by decide +kernel
theorem dX10_isTurn_17 : decode cX10_isTurn 17 = .ok (.goto 4, 3) := by decide +kernel
theorem dX10_isTurn_20 : decode cX10_isTurn 20 = .ok (.iconst 0, 1) := by decide +kernel
theorem dX10_isTurn_21 : decode cX10_isTurn 21 = .ok (.ireturn, 1) := by decide +kernel
theorem dX10_isVoice_0 : decode cX10_isVoice 0 = .ok (.iload_n 1, 1) := by decide +kernel
theorem dX10_isVoice_1 : decode cX10_isVoice 1 = .ok (.iconst 0, 1) := by decide +kernel
theorem dX10_isVoice_2 : decode cX10_isVoice 2 = .ok (.iconst 5, 1) := by decide +kernel
theorem dX10_isVoice_3 : decode cX10_isVoice 3 = .ok (.invokestatic 39, 3) := by decide +kernel
theorem dX10_isVoice_6 : decode cX10_isVoice 6 = .ok (.ifCond .eq 20, 3) := by decide +kernel
theorem dX10_isVoice_9 : decode cX10_isVoice 9 = .ok (.aload_n 0, 1) := by decide +kernel
theorem dX10_isVoice_10 : decode cX10_isVoice 10 = .ok (.getfield 7, 3) := by decide +kernel
theorem dX10_isVoice_13 : decode cX10_isVoice 13 = .ok (.sipush 276, 3) := by decide +kernel
theorem dX10_isVoice_16 : decode cX10_isVoice 16 = .ok (.iload_n 1, 1) := by decide +kernel
theorem dX10_isVoice_17 : decode cX10_isVoice 17 = .ok (.iadd, 1) := by decide +kernel
theorem dX10_isVoice_18 : decode cX10_isVoice 18 = .ok (.iaload, 1) := by decide +kernel
theorem dX10_isVoice_19 : decode cX10_isVoice 19 = .ok (.ifCond .le 7, 3) := by decide +kernel
theorem dX10_isVoice_22 : decode cX10_isVoice 22 = .ok (.iconst 1, 1) := by decide +kernel
theorem dX10_isVoice_23 : decode cX10_isVoice 23 = .ok (.goto 4, 3) := by decide +kernel
theorem dX10_isVoice_26 : decode cX10_isVoice 26 = .ok (.iconst 0, 1) := by decide +kernel
theorem dX10_isVoice_27 : decode cX10_isVoice 27 = .ok (.ireturn, 1) := by decide +kernel
theorem dX10_isTerm_0 : decode cX10_isTerm 0 = .ok (.iload_n 0, 1) := by decide +kernel
theorem dX10_isTerm_1 : decode cX10_isTerm 1 = .ok (.iconst 0, 1) := by decide +kernel
theorem dX10_isTerm_2 : decode cX10_isTerm 2 = .ok (.bipush 15, 2) := by decide +kernel
theorem dX10_isTerm_4 : decode cX10_isTerm 4 = .ok (.invokestatic 39, 3) := by decide +kernel
theorem dX10_isTerm_7 : decode cX10_isTerm 7 = .ok (.ireturn, 1) := by decide +kernel
theorem dX10_far_0 : decode cX10_far 0 = .ok (.iload_n 0, 1) := by decide +kernel
theorem dX10_far_1 : decode cX10_far 1 = .ok (.iload_n 1, 1) := by decide +kernel
theorem dX10_far_2 : decode cX10_far 2 = .ok (.if_icmp .ge 9, 3) := by decide +kernel
theorem dX10_far_5 : decode cX10_far 5 = .ok (.iload_n 1, 1) := by decide +kernel
theorem dX10_far_6 : decode cX10_far 6 = .ok (.iload_n 0, 1) := by decide +kernel
theorem dX10_far_7 : decode cX10_far 7 = .ok (.isub, 1) := by decide +kernel
theorem dX10_far_8 : decode cX10_far 8 = .ok (.goto 6, 3) := by decide +kernel
theorem dX10_far_11 : decode cX10_far 11 = .ok (.iload_n 0, 1) := by decide +kernel
theorem dX10_far_12 : decode cX10_far 12 = .ok (.iload_n 1, 1) := by decide +kernel
theorem dX10_far_13 : decode cX10_far 13 = .ok (.isub, 1) := by decide +kernel
theorem dX10_far_14 : decode cX10_far 14 = .ok (.ireturn, 1) := by decide +kernel
theorem dX10_voiceFor_0 : decode cX10_voiceFor 0 = .ok (.iconst (-1), 1) := by decide +kernel
theorem dX10_voiceFor_1 : decode cX10_voiceFor 1 = .ok (.istore_n 2, 1) := by decide +kernel
theorem dX10_voiceFor_2 : decode cX10_voiceFor 2 = .ok (.iconst 0, 1) := by decide +kernel
theorem dX10_voiceFor_3 : decode cX10_voiceFor 3 = .ok (.istore_n 3, 1) := by decide +kernel
theorem dX10_voiceFor_4 : decode cX10_voiceFor 4 = .ok (.iload_n 3, 1) := by decide +kernel
theorem dX10_voiceFor_5 : decode cX10_voiceFor 5 = .ok (.bipush 6, 2) := by decide +kernel
theorem dX10_voiceFor_7 : decode cX10_voiceFor 7 = .ok (.if_icmp .ge 100, 3) := by decide +kernel
theorem dX10_voiceFor_10 : decode cX10_voiceFor 10 = .ok (.aload_n 0, 1) := by decide +kernel
theorem dX10_voiceFor_11 : decode cX10_voiceFor 11 = .ok (.getfield 7, 3) := by decide +kernel
theorem dX10_voiceFor_14 : decode cX10_voiceFor 14 = .ok (.sipush 276, 3) := by decide +kernel
theorem dX10_voiceFor_17 : decode cX10_voiceFor 17 = .ok (.iload_n 3, 1) := by decide +kernel
theorem dX10_voiceFor_18 : decode cX10_voiceFor 18 = .ok (.iadd, 1) := by decide +kernel
theorem dX10_voiceFor_19 : decode cX10_voiceFor 19 = .ok (.iaload, 1) := by decide +kernel
theorem dX10_voiceFor_20 : decode cX10_voiceFor 20 = .ok (.ifCond .le 32, 3) := by decide +kernel
theorem dX10_voiceFor_23 : decode cX10_voiceFor 23 = .ok (.aload_n 0, 1) := by decide +kernel
theorem dX10_voiceFor_24 : decode cX10_voiceFor 24 = .ok (.getfield 7, 3) := by decide +kernel
theorem dX10_voiceFor_27 : decode cX10_voiceFor 27 = .ok (.sipush 276, 3) := by decide +kernel
theorem dX10_voiceFor_30 : decode cX10_voiceFor 30 = .ok (.iload_n 3, 1) := by decide +kernel
theorem dX10_voiceFor_31 : decode cX10_voiceFor 31 = .ok (.iadd, 1) := by decide +kernel
theorem dX10_voiceFor_32 : decode cX10_voiceFor 32 = .ok (.iaload, 1) := by decide +kernel
theorem dX10_voiceFor_33 : decode cX10_voiceFor 33 = .ok (.iload_n 1, 1) := by decide +kernel
theorem dX10_voiceFor_34 : decode cX10_voiceFor 34 = .ok (.invokestatic 43, 3) := by decide +kernel
theorem dX10_voiceFor_37 : decode cX10_voiceFor 37 = .ok (.aload_n 0, 1) := by decide +kernel
theorem dX10_voiceFor_38 : decode cX10_voiceFor 38 = .ok (.getfield 7, 3) := by decide +kernel
theorem dX10_voiceFor_41 : decode cX10_voiceFor 41 = .ok (.sipush 283, 3) := by decide +kernel
theorem dX10_voiceFor_44 : decode cX10_voiceFor 44 = .ok (.iaload, 1) := by decide +kernel
theorem dX10_voiceFor_45 : decode cX10_voiceFor 45 = .ok (.if_icmp .gt 7, 3) := by decide +kernel
theorem dX10_voiceFor_48 : decode cX10_voiceFor 48 = .ok (.iconst 1, 1) := by decide +kernel
theorem dX10_voiceFor_49 : decode cX10_voiceFor 49 = .ok (.goto 4, 3) := by decide +kernel
theorem dX10_voiceFor_52 : decode cX10_voiceFor 52 = .ok (.iconst 0, 1) := by decide +kernel
theorem dX10_voiceFor_53 : decode cX10_voiceFor 53 = .ok (.istore 4, 2) := by decide +kernel
theorem dX10_voiceFor_55 : decode cX10_voiceFor 55 = .ok (.iload 4, 2) := by decide +kernel
theorem dX10_voiceFor_57 : decode cX10_voiceFor 57 = .ok (.ifCond .eq 42, 3) := by decide +kernel
theorem dX10_voiceFor_60 : decode cX10_voiceFor 60 = .ok (.iload_n 2, 1) := by decide +kernel
theorem dX10_voiceFor_61 : decode cX10_voiceFor 61 = .ok (.ifCond .lt 34, 3) := by decide +kernel
theorem dX10_voiceFor_64 : decode cX10_voiceFor 64 = .ok (.aload_n 0, 1) := by decide +kernel
theorem dX10_voiceFor_65 : decode cX10_voiceFor 65 = .ok (.getfield 7, 3) := by decide +kernel
theorem dX10_voiceFor_68 : decode cX10_voiceFor 68 = .ok (.sipush 276, 3) := by decide +kernel
theorem dX10_voiceFor_71 : decode cX10_voiceFor 71 = .ok (.iload_n 3, 1) := by decide +kernel
theorem dX10_voiceFor_72 : decode cX10_voiceFor 72 = .ok (.iadd, 1) := by decide +kernel
theorem dX10_voiceFor_73 : decode cX10_voiceFor 73 = .ok (.iaload, 1) := by decide +kernel
theorem dX10_voiceFor_74 : decode cX10_voiceFor 74 = .ok (.iload_n 1, 1) := by decide +kernel
theorem dX10_voiceFor_75 : decode cX10_voiceFor 75 = .ok (.invokestatic 43, 3) := by decide +kernel
theorem dX10_voiceFor_78 : decode cX10_voiceFor 78 = .ok (.aload_n 0, 1) := by decide +kernel
theorem dX10_voiceFor_79 : decode cX10_voiceFor 79 = .ok (.getfield 7, 3) := by decide +kernel
theorem dX10_voiceFor_82 : decode cX10_voiceFor 82 = .ok (.sipush 276, 3) := by decide +kernel
theorem dX10_voiceFor_85 : decode cX10_voiceFor 85 = .ok (.iload_n 2, 1) := by decide +kernel
theorem dX10_voiceFor_86 : decode cX10_voiceFor 86 = .ok (.iadd, 1) := by decide +kernel
theorem dX10_voiceFor_87 : decode cX10_voiceFor 87 = .ok (.iaload, 1) := by decide +kernel
theorem dX10_voiceFor_88 : decode cX10_voiceFor 88 = .ok (.iload_n 1, 1) := by decide +kernel
theorem dX10_voiceFor_89 : decode cX10_voiceFor 89 = .ok (.invokestatic 43, 3) := by decide +kernel
theorem dX10_voiceFor_92 : decode cX10_voiceFor 92 = .ok (.if_icmp .ge 7, 3) := by decide +kernel
theorem dX10_voiceFor_95 : decode cX10_voiceFor 95 = .ok (.iload_n 3, 1) := by decide +kernel
theorem dX10_voiceFor_96 : decode cX10_voiceFor 96 = .ok (.goto 4, 3) := by decide +kernel
theorem dX10_voiceFor_99 : decode cX10_voiceFor 99 = .ok (.iload_n 2, 1) := by decide +kernel
theorem dX10_voiceFor_100 : decode cX10_voiceFor 100 = .ok (.istore_n 2, 1) := by decide +kernel
theorem dX10_voiceFor_101 : decode cX10_voiceFor 101 = .ok (.iinc 3 1, 3) := by decide +kernel
theorem dX10_voiceFor_104 : decode cX10_voiceFor 104 = .ok (.goto (-100), 3) := by decide +kernel
theorem dX10_voiceFor_107 : decode cX10_voiceFor 107 = .ok (.iload_n 2, 1) := by decide +kernel
theorem dX10_voiceFor_108 : decode cX10_voiceFor 108 = .ok (.ireturn, 1) := by decide +kernel
theorem dX10_opens_0 : decode cX10_opens 0 = .ok (.aload_n 0, 1) := by decide +kernel
theorem dX10_opens_1 : decode cX10_opens 1 = .ok (.getfield 7, 3) := by decide +kernel
theorem dX10_opens_4 : decode cX10_opens 4 = .ok (.sipush 282, 3) := by decide +kernel
theorem dX10_opens_7 : decode cX10_opens 7 = .ok (.iaload, 1) := by decide +kernel
theorem dX10_opens_8 : decode cX10_opens 8 = .ok (.istore_n 2, 1) := by decide +kernel
theorem dX10_opens_9 : decode cX10_opens 9 = .ok (.iload_n 2, 1) := by decide +kernel
theorem dX10_opens_10 : decode cX10_opens 10 = .ok (.ifCond .le 21, 3) := by decide +kernel
theorem dX10_opens_13 : decode cX10_opens 13 = .ok (.aload_n 0, 1) := by decide +kernel
theorem dX10_opens_14 : decode cX10_opens 14 = .ok (.iload_n 2, 1) := by decide +kernel
theorem dX10_opens_15 : decode cX10_opens 15 = .ok (.iconst 1, 1) := by decide +kernel
theorem dX10_opens_16 : decode cX10_opens 16 = .ok (.isub, 1) := by decide +kernel
theorem dX10_opens_17 : decode cX10_opens 17 = .ok (.iconst 0, 1) := by decide +kernel
theorem dX10_opens_18 : decode cX10_opens 18 = .ok (.invokevirtual 47, 3) := by decide +kernel
theorem dX10_opens_21 : decode cX10_opens 21 = .ok (.iload_n 1, 1) := by decide +kernel
theorem dX10_opens_22 : decode cX10_opens 22 = .ok (.if_icmp .le 9, 3) := by decide +kernel
theorem dX10_opens_25 : decode cX10_opens 25 = .ok (.iinc 2 (-1), 3) := by decide +kernel
theorem dX10_opens_28 : decode cX10_opens 28 = .ok (.goto (-19), 3) := by decide +kernel
theorem dX10_opens_31 : decode cX10_opens 31 = .ok (.bipush 13, 2) := by decide +kernel
theorem dX10_opens_33 : decode cX10_opens 33 = .ok (.aload_n 0, 1) := by decide +kernel
theorem dX10_opens_34 : decode cX10_opens 34 = .ok (.getfield 7, 3) := by decide +kernel
theorem dX10_opens_37 : decode cX10_opens 37 = .ok (.sipush 282, 3) := by decide +kernel
theorem dX10_opens_40 : decode cX10_opens 40 = .ok (.iaload, 1) := by decide +kernel
theorem dX10_opens_41 : decode cX10_opens 41 = .ok (.imul, 1) := by decide +kernel
theorem dX10_opens_42 : decode cX10_opens 42 = .ok (.iconst 1, 1) := by decide +kernel
theorem dX10_opens_43 : decode cX10_opens 43 = .ok (.isub, 1) := by decide +kernel
theorem dX10_opens_44 : decode cX10_opens 44 = .ok (.istore_n 3, 1) := by decide +kernel
theorem dX10_opens_45 : decode cX10_opens 45 = .ok (.iload_n 3, 1) := by decide +kernel
theorem dX10_opens_46 : decode cX10_opens 46 = .ok (.bipush 13, 2) := by decide +kernel
theorem dX10_opens_48 : decode cX10_opens 48 = .ok (.iload_n 2, 1) := by decide +kernel
theorem dX10_opens_49 : decode cX10_opens 49 = .ok (.imul, 1) := by decide +kernel
theorem dX10_opens_50 : decode cX10_opens 50 = .ok (.if_icmp .lt 24, 3) := by decide +kernel
theorem dX10_opens_53 : decode cX10_opens 53 = .ok (.aload_n 0, 1) := by decide +kernel
theorem dX10_opens_54 : decode cX10_opens 54 = .ok (.getfield 7, 3) := by decide +kernel
theorem dX10_opens_57 : decode cX10_opens 57 = .ok (.iload_n 3, 1) := by decide +kernel
theorem dX10_opens_58 : decode cX10_opens 58 = .ok (.bipush 13, 2) := by decide +kernel
theorem dX10_opens_60 : decode cX10_opens 60 = .ok (.iadd, 1) := by decide +kernel
theorem dX10_opens_61 : decode cX10_opens 61 = .ok (.aload_n 0, 1) := by decide +kernel
theorem dX10_opens_62 : decode cX10_opens 62 = .ok (.getfield 7, 3) := by decide +kernel
theorem dX10_opens_65 : decode cX10_opens 65 = .ok (.iload_n 3, 1) := by decide +kernel
theorem dX10_opens_66 : decode cX10_opens 66 = .ok (.iaload, 1) := by decide +kernel
theorem dX10_opens_67 : decode cX10_opens 67 = .ok (.iastore, 1) := by decide +kernel
theorem dX10_opens_68 : decode cX10_opens 68 = .ok (.iinc 3 (-1), 3) := by decide +kernel
theorem dX10_opens_71 : decode cX10_opens 71 = .ok (.goto (-26), 3) := by decide +kernel
theorem dX10_opens_74 : decode cX10_opens 74 = .ok (.aload_n 0, 1) := by decide +kernel
theorem dX10_opens_75 : decode cX10_opens 75 = .ok (.getfield 7, 3) := by decide +kernel
theorem dX10_opens_78 : decode cX10_opens 78 = .ok (.sipush 282, 3) := by decide +kernel
theorem dX10_opens_81 : decode cX10_opens 81 = .ok (.dup2, 1) := by decide +kernel
theorem dX10_opens_82 : decode cX10_opens 82 = .ok (.iaload, 1) := by decide +kernel
theorem dX10_opens_83 : decode cX10_opens 83 = .ok (.iconst 1, 1) := by decide +kernel
theorem dX10_opens_84 : decode cX10_opens 84 = .ok (.iadd, 1) := by decide +kernel
theorem dX10_opens_85 : decode cX10_opens 85 = .ok (.iastore, 1) := by decide +kernel
theorem dX10_opens_86 : decode cX10_opens 86 = .ok (.iload_n 2, 1) := by decide +kernel
theorem dX10_opens_87 : decode cX10_opens 87 = .ok (.ireturn, 1) := by decide +kernel
theorem dX10_turn_0 : decode cX10_turn 0 = .ok (.iload_n 1, 1) := by decide +kernel
theorem dX10_turn_1 : decode cX10_turn 1 = .ok (.iconst 0, 1) := by decide +kernel
theorem dX10_turn_2 : decode cX10_turn 2 = .ok (.sipush 1998, 3) := by decide +kernel
theorem dX10_turn_5 : decode cX10_turn 5 = .ok (.invokestatic 39, 3) := by decide +kernel
theorem dX10_turn_8 : decode cX10_turn 8 = .ok (.ifCond .eq 28, 3) := by decide +kernel
theorem dX10_turn_11 : decode cX10_turn 11 = .ok (.iload_n 2, 1) := by decide +kernel
theorem dX10_turn_12 : decode cX10_turn 12 = .ok (.iload_n 1, 1) := by decide +kernel
theorem dX10_turn_13 : decode cX10_turn 13 = .ok (.iconst 1, 1) := by decide +kernel
theorem dX10_turn_14 : decode cX10_turn 14 = .ok (.iadd, 1) := by decide +kernel
theorem dX10_turn_15 : decode cX10_turn 15 = .ok (.sipush 1999, 3) := by decide +kernel
theorem dX10_turn_18 : decode cX10_turn 18 = .ok (.invokestatic 39, 3) := by decide +kernel
theorem dX10_turn_21 : decode cX10_turn 21 = .ok (.ifCond .eq 15, 3) := by decide +kernel
theorem dX10_turn_24 : decode cX10_turn 24 = .ok (.iload_n 3, 1) := by decide +kernel
theorem dX10_turn_25 : decode cX10_turn 25 = .ok (.bipush 50, 2) := by decide +kernel
theorem dX10_turn_27 : decode cX10_turn 27 = .ok (.sipush 500, 3) := by decide +kernel
theorem dX10_turn_30 : decode cX10_turn 30 = .ok (.invokestatic 39, 3) := by decide +kernel
theorem dX10_turn_33 : decode cX10_turn 33 = .ok (.ifCond .ne 6, 3) := by decide +kernel
theorem dX10_turn_36 : decode cX10_turn 36 = .ok (.ldc 50, 2) := by decide +kernel
theorem dX10_turn_38 : decode cX10_turn 38 = .ok (.ireturn, 1) := by decide +kernel
theorem dX10_turn_39 : decode cX10_turn 39 = .ok (.aload_n 0, 1) := by decide +kernel
theorem dX10_turn_40 : decode cX10_turn 40 = .ok (.getfield 7, 3) := by decide +kernel
theorem dX10_turn_43 : decode cX10_turn 43 = .ok (.sipush 282, 3) := by decide +kernel
theorem dX10_turn_46 : decode cX10_turn 46 = .ok (.iaload, 1) := by decide +kernel
theorem dX10_turn_47 : decode cX10_turn 47 = .ok (.bipush 20, 2) := by decide +kernel
theorem dX10_turn_49 : decode cX10_turn 49 = .ok (.if_icmp .ne 6, 3) := by decide +kernel
theorem dX10_turn_52 : decode cX10_turn 52 = .ok (.ldc 51, 2) := by decide +kernel
theorem dX10_turn_54 : decode cX10_turn 54 = .ok (.ireturn, 1) := by decide +kernel
theorem dX10_turn_55 : decode cX10_turn 55 = .ok (.aload_n 0, 1) := by decide +kernel
theorem dX10_turn_56 : decode cX10_turn 56 = .ok (.invokevirtual 52, 3) := by decide +kernel
theorem dX10_turn_59 : decode cX10_turn 59 = .ok (.aload_n 0, 1) := by decide +kernel
theorem dX10_turn_60 : decode cX10_turn 60 = .ok (.iload_n 1, 1) := by decide +kernel
theorem dX10_turn_61 : decode cX10_turn 61 = .ok (.invokevirtual 55, 3) := by decide +kernel
theorem dX10_turn_64 : decode cX10_turn 64 = .ok (.istore 4, 2) := by decide +kernel
theorem dX10_turn_66 : decode cX10_turn 66 = .ok (.aload_n 0, 1) := by decide +kernel
theorem dX10_turn_67 : decode cX10_turn 67 = .ok (.iload 4, 2) := by decide +kernel
theorem dX10_turn_69 : decode cX10_turn 69 = .ok (.iconst 0, 1) := by decide +kernel
theorem dX10_turn_70 : decode cX10_turn 70 = .ok (.iload_n 1, 1) := by decide +kernel
theorem dX10_turn_71 : decode cX10_turn 71 = .ok (.invokevirtual 59, 3) := by decide +kernel
theorem dX10_turn_74 : decode cX10_turn 74 = .ok (.aload_n 0, 1) := by decide +kernel
theorem dX10_turn_75 : decode cX10_turn 75 = .ok (.iload 4, 2) := by decide +kernel
theorem dX10_turn_77 : decode cX10_turn 77 = .ok (.iconst 1, 1) := by decide +kernel
theorem dX10_turn_78 : decode cX10_turn 78 = .ok (.iload_n 2, 1) := by decide +kernel
theorem dX10_turn_79 : decode cX10_turn 79 = .ok (.invokevirtual 59, 3) := by decide +kernel
theorem dX10_turn_82 : decode cX10_turn 82 = .ok (.aload_n 0, 1) := by decide +kernel
theorem dX10_turn_83 : decode cX10_turn 83 = .ok (.iload 4, 2) := by decide +kernel
theorem dX10_turn_85 : decode cX10_turn 85 = .ok (.iconst 2, 1) := by decide +kernel
theorem dX10_turn_86 : decode cX10_turn 86 = .ok (.iload_n 3, 1) := by decide +kernel
theorem dX10_turn_87 : decode cX10_turn 87 = .ok (.invokevirtual 59, 3) := by decide +kernel
theorem dX10_turn_90 : decode cX10_turn 90 = .ok (.aload_n 0, 1) := by decide +kernel
theorem dX10_turn_91 : decode cX10_turn 91 = .ok (.iload 4, 2) := by decide +kernel
theorem dX10_turn_93 : decode cX10_turn 93 = .ok (.iconst 3, 1) := by decide +kernel
theorem dX10_turn_94 : decode cX10_turn 94 = .ok (.aload_n 0, 1) := by decide +kernel
theorem dX10_turn_95 : decode cX10_turn 95 = .ok (.iload_n 3, 1) := by decide +kernel
theorem dX10_turn_96 : decode cX10_turn 96 = .ok (.invokevirtual 63, 3) := by decide +kernel
theorem dX10_turn_99 : decode cX10_turn 99 = .ok (.invokevirtual 59, 3) := by decide +kernel
theorem dX10_turn_102 : decode cX10_turn 102 = .ok (.aload_n 0, 1) := by decide +kernel
theorem dX10_turn_103 : decode cX10_turn 103 = .ok (.iload 4, 2) := by decide +kernel
theorem dX10_turn_105 : decode cX10_turn 105 = .ok (.iconst 4, 1) := by decide +kernel
theorem dX10_turn_106 : decode cX10_turn 106 = .ok (.iconst 0, 1) := by decide +kernel
theorem dX10_turn_107 : decode cX10_turn 107 = .ok (.invokevirtual 59, 3) := by decide +kernel
theorem dX10_turn_110 : decode cX10_turn 110 = .ok (.iload 4, 2) := by decide +kernel
theorem dX10_turn_112 : decode cX10_turn 112 = .ok (.ireturn, 1) := by decide +kernel
theorem dX10_say_0 : decode cX10_say 0 = .ok (.aload_n 0, 1) := by decide +kernel
theorem dX10_say_1 : decode cX10_say 1 = .ok (.iload_n 1, 1) := by decide +kernel
theorem dX10_say_2 : decode cX10_say 2 = .ok (.invokevirtual 66, 3) := by decide +kernel
theorem dX10_say_5 : decode cX10_say 5 = .ok (.ifCond .eq 10, 3) := by decide +kernel
theorem dX10_say_8 : decode cX10_say 8 = .ok (.iload_n 2, 1) := by decide +kernel
theorem dX10_say_9 : decode cX10_say 9 = .ok (.invokestatic 70, 3) := by decide +kernel
theorem dX10_say_12 : decode cX10_say 12 = .ok (.ifCond .ne 6, 3) := by decide +kernel
theorem dX10_say_15 : decode cX10_say 15 = .ok (.ldc 50, 2) := by decide +kernel
theorem dX10_say_17 : decode cX10_say 17 = .ok (.ireturn, 1) := by decide +kernel
theorem dX10_say_18 : decode cX10_say 18 = .ok (.aload_n 0, 1) := by decide +kernel
theorem dX10_say_19 : decode cX10_say 19 = .ok (.iload_n 1, 1) := by decide +kernel
theorem dX10_say_20 : decode cX10_say 20 = .ok (.iconst 4, 1) := by decide +kernel
theorem dX10_say_21 : decode cX10_say 21 = .ok (.invokevirtual 47, 3) := by decide +kernel
theorem dX10_say_24 : decode cX10_say 24 = .ok (.istore_n 3, 1) := by decide +kernel
theorem dX10_say_25 : decode cX10_say 25 = .ok (.iload_n 3, 1) := by decide +kernel
theorem dX10_say_26 : decode cX10_say 26 = .ok (.bipush 8, 2) := by decide +kernel
theorem dX10_say_28 : decode cX10_say 28 = .ok (.if_icmp .ne 6, 3) := by decide +kernel
theorem dX10_say_31 : decode cX10_say 31 = .ok (.ldc 51, 2) := by decide +kernel
theorem dX10_say_33 : decode cX10_say 33 = .ok (.ireturn, 1) := by decide +kernel
theorem dX10_say_34 : decode cX10_say 34 = .ok (.aload_n 0, 1) := by decide +kernel
theorem dX10_say_35 : decode cX10_say 35 = .ok (.invokevirtual 52, 3) := by decide +kernel
theorem dX10_say_38 : decode cX10_say 38 = .ok (.aload_n 0, 1) := by decide +kernel
theorem dX10_say_39 : decode cX10_say 39 = .ok (.iload_n 1, 1) := by decide +kernel
theorem dX10_say_40 : decode cX10_say 40 = .ok (.iconst 5, 1) := by decide +kernel
theorem dX10_say_41 : decode cX10_say 41 = .ok (.iload_n 3, 1) := by decide +kernel
theorem dX10_say_42 : decode cX10_say 42 = .ok (.iadd, 1) := by decide +kernel
theorem dX10_say_43 : decode cX10_say 43 = .ok (.iload_n 2, 1) := by decide +kernel
theorem dX10_say_44 : decode cX10_say 44 = .ok (.invokevirtual 59, 3) := by decide +kernel
theorem dX10_say_47 : decode cX10_say 47 = .ok (.aload_n 0, 1) := by decide +kernel
theorem dX10_say_48 : decode cX10_say 48 = .ok (.iload_n 1, 1) := by decide +kernel
theorem dX10_say_49 : decode cX10_say 49 = .ok (.iconst 4, 1) := by decide +kernel
theorem dX10_say_50 : decode cX10_say 50 = .ok (.iload_n 3, 1) := by decide +kernel
theorem dX10_say_51 : decode cX10_say 51 = .ok (.iconst 1, 1) := by decide +kernel
theorem dX10_say_52 : decode cX10_say 52 = .ok (.iadd, 1) := by decide +kernel
theorem dX10_say_53 : decode cX10_say 53 = .ok (.invokevirtual 59, 3) := by decide +kernel
theorem dX10_say_56 : decode cX10_say 56 = .ok (.iload_n 3, 1) := by decide +kernel
theorem dX10_say_57 : decode cX10_say 57 = .ok (.iconst 1, 1) := by decide +kernel
theorem dX10_say_58 : decode cX10_say 58 = .ok (.iadd, 1) := by decide +kernel
theorem dX10_say_59 : decode cX10_say 59 = .ok (.ireturn, 1) := by decide +kernel
theorem dX10_part_0 : decode cX10_part 0 = .ok (.aload_n 0, 1) := by decide +kernel
theorem dX10_part_1 : decode cX10_part 1 = .ok (.iload_n 1, 1) := by decide +kernel
theorem dX10_part_2 : decode cX10_part 2 = .ok (.invokevirtual 66, 3) := by decide +kernel
theorem dX10_part_5 : decode cX10_part 5 = .ok (.ifCond .eq 37, 3) := by decide +kernel
theorem dX10_part_8 : decode cX10_part 8 = .ok (.iload_n 2, 1) := by decide +kernel
theorem dX10_part_9 : decode cX10_part 9 = .ok (.aload_n 0, 1) := by decide +kernel
theorem dX10_part_10 : decode cX10_part 10 = .ok (.iload_n 1, 1) := by decide +kernel
theorem dX10_part_11 : decode cX10_part 11 = .ok (.iconst 0, 1) := by decide +kernel
theorem dX10_part_12 : decode cX10_part 12 = .ok (.invokevirtual 47, 3) := by decide +kernel
theorem dX10_part_15 : decode cX10_part 15 = .ok (.if_icmp .le 27, 3) := by decide +kernel
theorem dX10_part_18 : decode cX10_part 18 = .ok (.iload_n 2, 1) := by decide +kernel
theorem dX10_part_19 : decode cX10_part 19 = .ok (.aload_n 0, 1) := by decide +kernel
theorem dX10_part_20 : decode cX10_part 20 = .ok (.iload_n 1, 1) := by decide +kernel
theorem dX10_part_21 : decode cX10_part 21 = .ok (.iconst 1, 1) := by decide +kernel
theorem dX10_part_22 : decode cX10_part 22 = .ok (.invokevirtual 47, 3) := by decide +kernel
theorem dX10_part_25 : decode cX10_part 25 = .ok (.if_icmp .ge 17, 3) := by decide +kernel
theorem dX10_part_28 : decode cX10_part 28 = .ok (.iload_n 3, 1) := by decide +kernel
theorem dX10_part_29 : decode cX10_part 29 = .ok (.iconst 0, 1) := by decide +kernel
theorem dX10_part_30 : decode cX10_part 30 = .ok (.aload_n 0, 1) := by decide +kernel
theorem dX10_part_31 : decode cX10_part 31 = .ok (.iload_n 1, 1) := by decide +kernel
theorem dX10_part_32 : decode cX10_part 32 = .ok (.iconst 4, 1) := by decide +kernel
theorem dX10_part_33 : decode cX10_part 33 = .ok (.invokevirtual 47, 3) := by decide +kernel
theorem dX10_part_36 : decode cX10_part 36 = .ok (.invokestatic 39, 3) := by decide +kernel
theorem dX10_part_39 : decode cX10_part 39 = .ok (.ifCond .ne 6, 3) := by decide +kernel
theorem dX10_part_42 : decode cX10_part 42 = .ok (.ldc 50, 2) := by decide +kernel
theorem dX10_part_44 : decode cX10_part 44 = .ok (.ireturn, 1) := by decide +kernel
theorem dX10_part_45 : decode cX10_part 45 = .ok (.aload_n 0, 1) := by decide +kernel
theorem dX10_part_46 : decode cX10_part 46 = .ok (.getfield 7, 3) := by decide +kernel
theorem dX10_part_49 : decode cX10_part 49 = .ok (.sipush 282, 3) := by decide +kernel
theorem dX10_part_52 : decode cX10_part 52 = .ok (.iaload, 1) := by decide +kernel
theorem dX10_part_53 : decode cX10_part 53 = .ok (.bipush 20, 2) := by decide +kernel
theorem dX10_part_55 : decode cX10_part 55 = .ok (.if_icmp .ne 6, 3) := by decide +kernel
theorem dX10_part_58 : decode cX10_part 58 = .ok (.ldc 51, 2) := by decide +kernel
theorem dX10_part_60 : decode cX10_part 60 = .ok (.ireturn, 1) := by decide +kernel
theorem dX10_part_61 : decode cX10_part 61 = .ok (.aload_n 0, 1) := by decide +kernel
theorem dX10_part_62 : decode cX10_part 62 = .ok (.invokevirtual 52, 3) := by decide +kernel
theorem dX10_part_65 : decode cX10_part 65 = .ok (.iconst 0, 1) := by decide +kernel
theorem dX10_part_66 : decode cX10_part 66 = .ok (.istore 4, 2) := by decide +kernel
theorem dX10_part_68 : decode cX10_part 68 = .ok (.iload 4, 2) := by decide +kernel
theorem dX10_part_70 : decode cX10_part 70 = .ok (.bipush 13, 2) := by decide +kernel
theorem dX10_part_72 : decode cX10_part 72 = .ok (.if_icmp .ge 23, 3) := by decide +kernel
theorem dX10_part_75 : decode cX10_part 75 = .ok (.aload_n 0, 1) := by decide +kernel
theorem dX10_part_76 : decode cX10_part 76 = .ok (.getfield 22, 3) := by decide +kernel
theorem dX10_part_79 : decode cX10_part 79 = .ok (.iload 4, 2) := by decide +kernel
theorem dX10_part_81 : decode cX10_part 81 = .ok (.aload_n 0, 1) := by decide +kernel
theorem dX10_part_82 : decode cX10_part 82 = .ok (.iload_n 1, 1) := by decide +kernel
theorem dX10_part_83 : decode cX10_part 83 = .ok (.iload 4, 2) := by decide +kernel
theorem dX10_part_85 : decode cX10_part 85 = .ok (.invokevirtual 47, 3) := by decide +kernel
theorem dX10_part_88 : decode cX10_part 88 = .ok (.iastore, 1) := by decide +kernel
theorem dX10_part_89 : decode cX10_part 89 = .ok (.iinc 4 1, 3) := by decide +kernel
theorem dX10_part_92 : decode cX10_part 92 = .ok (.goto (-24), 3) := by decide +kernel
theorem dX10_part_95 : decode cX10_part 95 = .ok (.aload_n 0, 1) := by decide +kernel
theorem dX10_part_96 : decode cX10_part 96 = .ok (.iload_n 1, 1) := by decide +kernel
theorem dX10_part_97 : decode cX10_part 97 = .ok (.iconst 1, 1) := by decide +kernel
theorem dX10_part_98 : decode cX10_part 98 = .ok (.iload_n 2, 1) := by decide +kernel
theorem dX10_part_99 : decode cX10_part 99 = .ok (.invokevirtual 59, 3) := by decide +kernel
theorem dX10_part_102 : decode cX10_part 102 = .ok (.aload_n 0, 1) := by decide +kernel
theorem dX10_part_103 : decode cX10_part 103 = .ok (.iload_n 1, 1) := by decide +kernel
theorem dX10_part_104 : decode cX10_part 104 = .ok (.iconst 4, 1) := by decide +kernel
theorem dX10_part_105 : decode cX10_part 105 = .ok (.iload_n 3, 1) := by decide +kernel
theorem dX10_part_106 : decode cX10_part 106 = .ok (.invokevirtual 59, 3) := by decide +kernel
theorem dX10_part_109 : decode cX10_part 109 = .ok (.aload_n 0, 1) := by decide +kernel
theorem dX10_part_110 : decode cX10_part 110 = .ok (.iload_n 2, 1) := by decide +kernel
theorem dX10_part_111 : decode cX10_part 111 = .ok (.invokevirtual 55, 3) := by decide +kernel
theorem dX10_part_114 : decode cX10_part 114 = .ok (.istore 4, 2) := by decide +kernel
theorem dX10_part_116 : decode cX10_part 116 = .ok (.iconst 0, 1) := by decide +kernel
theorem dX10_part_117 : decode cX10_part 117 = .ok (.istore 5, 2) := by decide +kernel
theorem dX10_part_119 : decode cX10_part 119 = .ok (.iload 5, 2) := by decide +kernel
theorem dX10_part_121 : decode cX10_part 121 = .ok (.bipush 13, 2) := by decide +kernel
theorem dX10_part_123 : decode cX10_part 123 = .ok (.if_icmp .ge 24, 3) := by decide +kernel
theorem dX10_part_126 : decode cX10_part 126 = .ok (.aload_n 0, 1) := by decide +kernel
theorem dX10_part_127 : decode cX10_part 127 = .ok (.iload 4, 2) := by decide +kernel
theorem dX10_part_129 : decode cX10_part 129 = .ok (.iload 5, 2) := by decide +kernel
theorem dX10_part_131 : decode cX10_part 131 = .ok (.aload_n 0, 1) := by decide +kernel
theorem dX10_part_132 : decode cX10_part 132 = .ok (.getfield 22, 3) := by decide +kernel
theorem dX10_part_135 : decode cX10_part 135 = .ok (.iload 5, 2) := by decide +kernel
theorem dX10_part_137 : decode cX10_part 137 = .ok (.iaload, 1) := by decide +kernel
theorem dX10_part_138 : decode cX10_part 138 = .ok (.invokevirtual 59, 3) := by decide +kernel
theorem dX10_part_141 : decode cX10_part 141 = .ok (.iinc 5 1, 3) := by decide +kernel
theorem dX10_part_144 : decode cX10_part 144 = .ok (.goto (-25), 3) := by decide +kernel
theorem dX10_part_147 : decode cX10_part 147 = .ok (.aload_n 0, 1) := by decide +kernel
theorem dX10_part_148 : decode cX10_part 148 = .ok (.iload 4, 2) := by decide +kernel
theorem dX10_part_150 : decode cX10_part 150 = .ok (.iconst 0, 1) := by decide +kernel
theorem dX10_part_151 : decode cX10_part 151 = .ok (.iload_n 2, 1) := by decide +kernel
theorem dX10_part_152 : decode cX10_part 152 = .ok (.invokevirtual 59, 3) := by decide +kernel
theorem dX10_part_155 : decode cX10_part 155 = .ok (.aload_n 0, 1) := by decide +kernel
theorem dX10_part_156 : decode cX10_part 156 = .ok (.iload 4, 2) := by decide +kernel
theorem dX10_part_158 : decode cX10_part 158 = .ok (.iconst 4, 1) := by decide +kernel
theorem dX10_part_159 : decode cX10_part 159 = .ok (.aload_n 0, 1) := by decide +kernel
theorem dX10_part_160 : decode cX10_part 160 = .ok (.getfield 22, 3) := by decide +kernel
theorem dX10_part_163 : decode cX10_part 163 = .ok (.iconst 4, 1) := by decide +kernel
theorem dX10_part_164 : decode cX10_part 164 = .ok (.iaload, 1) := by decide +kernel
theorem dX10_part_165 : decode cX10_part 165 = .ok (.iload_n 3, 1) := by decide +kernel
theorem dX10_part_166 : decode cX10_part 166 = .ok (.isub, 1) := by decide +kernel
theorem dX10_part_167 : decode cX10_part 167 = .ok (.invokevirtual 59, 3) := by decide +kernel
theorem dX10_part_170 : decode cX10_part 170 = .ok (.iload_n 3, 1) := by decide +kernel
theorem dX10_part_171 : decode cX10_part 171 = .ok (.istore 5, 2) := by decide +kernel
theorem dX10_part_173 : decode cX10_part 173 = .ok (.iload 5, 2) := by decide +kernel
theorem dX10_part_175 : decode cX10_part 175 = .ok (.aload_n 0, 1) := by decide +kernel
theorem dX10_part_176 : decode cX10_part 176 = .ok (.getfield 22, 3) := by decide +kernel
theorem dX10_part_179 : decode cX10_part 179 = .ok (.iconst 4, 1) := by decide +kernel
theorem dX10_part_180 : decode cX10_part 180 = .ok (.iaload, 1) := by decide +kernel
theorem dX10_part_181 : decode cX10_part 181 = .ok (.if_icmp .ge 30, 3) := by decide +kernel
theorem dX10_part_184 : decode cX10_part 184 = .ok (.aload_n 0, 1) := by decide +kernel
theorem dX10_part_185 : decode cX10_part 185 = .ok (.iload 4, 2) := by decide +kernel
theorem dX10_part_187 : decode cX10_part 187 = .ok (.iconst 5, 1) := by decide +kernel
theorem dX10_part_188 : decode cX10_part 188 = .ok (.iload 5, 2) := by decide +kernel
theorem dX10_part_190 : decode cX10_part 190 = .ok (.iadd, 1) := by decide +kernel
theorem dX10_part_191 : decode cX10_part 191 = .ok (.iload_n 3, 1) := by decide +kernel
theorem dX10_part_192 : decode cX10_part 192 = .ok (.isub, 1) := by decide +kernel
theorem dX10_part_193 : decode cX10_part 193 = .ok (.aload_n 0, 1) := by decide +kernel
theorem dX10_part_194 : decode cX10_part 194 = .ok (.getfield 22, 3) := by decide +kernel
theorem dX10_part_197 : decode cX10_part 197 = .ok (.iconst 5, 1) := by decide +kernel
theorem dX10_part_198 : decode cX10_part 198 = .ok (.iload 5, 2) := by decide +kernel
theorem dX10_part_200 : decode cX10_part 200 = .ok (.iadd, 1) := by decide +kernel
theorem dX10_part_201 : decode cX10_part 201 = .ok (.iaload, 1) := by decide +kernel
theorem dX10_part_202 : decode cX10_part 202 = .ok (.invokevirtual 59, 3) := by decide +kernel
theorem dX10_part_205 : decode cX10_part 205 = .ok (.iinc 5 1, 3) := by decide +kernel
theorem dX10_part_208 : decode cX10_part 208 = .ok (.goto (-35), 3) := by decide +kernel
theorem dX10_part_211 : decode cX10_part 211 = .ok (.iload 4, 2) := by decide +kernel
theorem dX10_part_213 : decode cX10_part 213 = .ok (.ireturn, 1) := by decide +kernel
theorem dX10_remove_0 : decode cX10_remove 0 = .ok (.aload_n 0, 1) := by decide +kernel
theorem dX10_remove_1 : decode cX10_remove 1 = .ok (.iload_n 1, 1) := by decide +kernel
theorem dX10_remove_2 : decode cX10_remove 2 = .ok (.invokevirtual 66, 3) := by decide +kernel
theorem dX10_remove_5 : decode cX10_remove 5 = .ok (.ifCond .ne 6, 3) := by decide +kernel
theorem dX10_remove_8 : decode cX10_remove 8 = .ok (.ldc 50, 2) := by decide +kernel
theorem dX10_remove_10 : decode cX10_remove 10 = .ok (.ireturn, 1) := by decide +kernel
theorem dX10_remove_11 : decode cX10_remove 11 = .ok (.aload_n 0, 1) := by decide +kernel
theorem dX10_remove_12 : decode cX10_remove 12 = .ok (.invokevirtual 52, 3) := by decide +kernel
theorem dX10_remove_15 : decode cX10_remove 15 = .ok (.aload_n 0, 1) := by decide +kernel
theorem dX10_remove_16 : decode cX10_remove 16 = .ok (.getfield 7, 3) := by decide +kernel
theorem dX10_remove_19 : decode cX10_remove 19 = .ok (.sipush 282, 3) := by decide +kernel
theorem dX10_remove_22 : decode cX10_remove 22 = .ok (.dup2, 1) := by decide +kernel
theorem dX10_remove_23 : decode cX10_remove 23 = .ok (.iaload, 1) := by decide +kernel
theorem dX10_remove_24 : decode cX10_remove 24 = .ok (.iconst 1, 1) := by decide +kernel
theorem dX10_remove_25 : decode cX10_remove 25 = .ok (.isub, 1) := by decide +kernel
theorem dX10_remove_26 : decode cX10_remove 26 = .ok (.iastore, 1) := by decide +kernel
theorem dX10_remove_27 : decode cX10_remove 27 = .ok (.bipush 13, 2) := by decide +kernel
theorem dX10_remove_29 : decode cX10_remove 29 = .ok (.iload_n 1, 1) := by decide +kernel
theorem dX10_remove_30 : decode cX10_remove 30 = .ok (.imul, 1) := by decide +kernel
theorem dX10_remove_31 : decode cX10_remove 31 = .ok (.istore_n 2, 1) := by decide +kernel
theorem dX10_remove_32 : decode cX10_remove 32 = .ok (.iload_n 2, 1) := by decide +kernel
theorem dX10_remove_33 : decode cX10_remove 33 = .ok (.bipush 13, 2) := by decide +kernel
theorem dX10_remove_35 : decode cX10_remove 35 = .ok (.aload_n 0, 1) := by decide +kernel
theorem dX10_remove_36 : decode cX10_remove 36 = .ok (.getfield 7, 3) := by decide +kernel
theorem dX10_remove_39 : decode cX10_remove 39 = .ok (.sipush 282, 3) := by decide +kernel
theorem dX10_remove_42 : decode cX10_remove 42 = .ok (.iaload, 1) := by decide +kernel
theorem dX10_remove_43 : decode cX10_remove 43 = .ok (.imul, 1) := by decide +kernel
theorem dX10_remove_44 : decode cX10_remove 44 = .ok (.if_icmp .ge 24, 3) := by decide +kernel
theorem dX10_remove_47 : decode cX10_remove 47 = .ok (.aload_n 0, 1) := by decide +kernel
theorem dX10_remove_48 : decode cX10_remove 48 = .ok (.getfield 7, 3) := by decide +kernel
theorem dX10_remove_51 : decode cX10_remove 51 = .ok (.iload_n 2, 1) := by decide +kernel
theorem dX10_remove_52 : decode cX10_remove 52 = .ok (.aload_n 0, 1) := by decide +kernel
theorem dX10_remove_53 : decode cX10_remove 53 = .ok (.getfield 7, 3) := by decide +kernel
theorem dX10_remove_56 : decode cX10_remove 56 = .ok (.iload_n 2, 1) := by decide +kernel
theorem dX10_remove_57 : decode cX10_remove 57 = .ok (.bipush 13, 2) := by decide +kernel
theorem dX10_remove_59 : decode cX10_remove 59 = .ok (.iadd, 1) := by decide +kernel
theorem dX10_remove_60 : decode cX10_remove 60 = .ok (.iaload, 1) := by decide +kernel
theorem dX10_remove_61 : decode cX10_remove 61 = .ok (.iastore, 1) := by decide +kernel
theorem dX10_remove_62 : decode cX10_remove 62 = .ok (.iinc 2 1, 3) := by decide +kernel
theorem dX10_remove_65 : decode cX10_remove 65 = .ok (.goto (-33), 3) := by decide +kernel
theorem dX10_remove_68 : decode cX10_remove 68 = .ok (.aload_n 0, 1) := by decide +kernel
theorem dX10_remove_69 : decode cX10_remove 69 = .ok (.getfield 7, 3) := by decide +kernel
theorem dX10_remove_72 : decode cX10_remove 72 = .ok (.sipush 282, 3) := by decide +kernel
theorem dX10_remove_75 : decode cX10_remove 75 = .ok (.iaload, 1) := by decide +kernel
theorem dX10_remove_76 : decode cX10_remove 76 = .ok (.ireturn, 1) := by decide +kernel
theorem dX10_shown_0 : decode cX10_shown 0 = .ok (.iload_n 1, 1) := by decide +kernel
theorem dX10_shown_1 : decode cX10_shown 1 = .ok (.istore_n 2, 1) := by decide +kernel
theorem dX10_shown_2 : decode cX10_shown 2 = .ok (.aload_n 0, 1) := by decide +kernel
theorem dX10_shown_3 : decode cX10_shown 3 = .ok (.getfield 7, 3) := by decide +kernel
theorem dX10_shown_6 : decode cX10_shown 6 = .ok (.sipush 260, 3) := by decide +kernel
theorem dX10_shown_9 : decode cX10_shown 9 = .ok (.iload_n 2, 1) := by decide +kernel
theorem dX10_shown_10 : decode cX10_shown 10 = .ok (.iadd, 1) := by decide +kernel
theorem dX10_shown_11 : decode cX10_shown 11 = .ok (.iaload, 1) := by decide +kernel
theorem dX10_shown_12 : decode cX10_shown 12 = .ok (.ifCond .lt 17, 3) := by decide +kernel
theorem dX10_shown_15 : decode cX10_shown 15 = .ok (.aload_n 0, 1) := by decide +kernel
theorem dX10_shown_16 : decode cX10_shown 16 = .ok (.getfield 7, 3) := by decide +kernel
theorem dX10_shown_19 : decode cX10_shown 19 = .ok (.sipush 260, 3) := by decide +kernel
theorem dX10_shown_22 : decode cX10_shown 22 = .ok (.iload_n 2, 1) := by decide +kernel
theorem dX10_shown_23 : decode cX10_shown 23 = .ok (.iadd, 1) := by decide +kernel
theorem dX10_shown_24 : decode cX10_shown 24 = .ok (.iaload, 1) := by decide +kernel
theorem dX10_shown_25 : decode cX10_shown 25 = .ok (.istore_n 2, 1) := by decide +kernel
theorem dX10_shown_26 : decode cX10_shown 26 = .ok (.goto (-24), 3) := by decide +kernel
theorem dX10_shown_29 : decode cX10_shown 29 = .ok (.iload_n 2, 1) := by decide +kernel
theorem dX10_shown_30 : decode cX10_shown 30 = .ok (.ireturn, 1) := by decide +kernel
theorem dX10_isOn_0 : decode cX10_isOn 0 = .ok (.iload_n 2, 1) := by decide +kernel
theorem dX10_isOn_1 : decode cX10_isOn 1 = .ok (.istore_n 3, 1) := by decide +kernel
theorem dX10_isOn_2 : decode cX10_isOn 2 = .ok (.iload_n 3, 1) := by decide +kernel
theorem dX10_isOn_3 : decode cX10_isOn 3 = .ok (.iload_n 1, 1) := by decide +kernel
theorem dX10_isOn_4 : decode cX10_isOn 4 = .ok (.if_icmp .eq 30, 3) := by decide +kernel
theorem dX10_isOn_7 : decode cX10_isOn 7 = .ok (.aload_n 0, 1) := by decide +kernel
theorem dX10_isOn_8 : decode cX10_isOn 8 = .ok (.getfield 7, 3) := by decide +kernel
theorem dX10_isOn_11 : decode cX10_isOn 11 = .ok (.sipush 260, 3) := by decide +kernel
theorem dX10_isOn_14 : decode cX10_isOn 14 = .ok (.iload_n 3, 1) := by decide +kernel
theorem dX10_isOn_15 : decode cX10_isOn 15 = .ok (.iadd, 1) := by decide +kernel
theorem dX10_isOn_16 : decode cX10_isOn 16 = .ok (.iaload, 1) := by decide +kernel
theorem dX10_isOn_17 : decode cX10_isOn 17 = .ok (.ifCond .lt 17, 3) := by decide +kernel
theorem dX10_isOn_20 : decode cX10_isOn 20 = .ok (.aload_n 0, 1) := by decide +kernel
theorem dX10_isOn_21 : decode cX10_isOn 21 = .ok (.getfield 7, 3) := by decide +kernel
theorem dX10_isOn_24 : decode cX10_isOn 24 = .ok (.sipush 260, 3) := by decide +kernel
theorem dX10_isOn_27 : decode cX10_isOn 27 = .ok (.iload_n 3, 1) := by decide +kernel
theorem dX10_isOn_28 : decode cX10_isOn 28 = .ok (.iadd, 1) := by decide +kernel
theorem dX10_isOn_29 : decode cX10_isOn 29 = .ok (.iaload, 1) := by decide +kernel
theorem dX10_isOn_30 : decode cX10_isOn 30 = .ok (.istore_n 3, 1) := by decide +kernel
theorem dX10_isOn_31 : decode cX10_isOn 31 = .ok (.goto (-29), 3) := by decide +kernel
theorem dX10_isOn_34 : decode cX10_isOn 34 = .ok (.iload_n 3, 1) := by decide +kernel
theorem dX10_isOn_35 : decode cX10_isOn 35 = .ok (.iload_n 1, 1) := by decide +kernel
theorem dX10_isOn_36 : decode cX10_isOn 36 = .ok (.if_icmp .ne 7, 3) := by decide +kernel
theorem dX10_isOn_39 : decode cX10_isOn 39 = .ok (.iconst 1, 1) := by decide +kernel
theorem dX10_isOn_40 : decode cX10_isOn 40 = .ok (.goto 4, 3) := by decide +kernel
theorem dX10_isOn_43 : decode cX10_isOn 43 = .ok (.iconst 0, 1) := by decide +kernel
theorem dX10_isOn_44 : decode cX10_isOn 44 = .ok (.ireturn, 1) := by decide +kernel
theorem dX10_turnsTo_0 : decode cX10_turnsTo 0 = .ok (.aload_n 0, 1) := by decide +kernel
theorem dX10_turnsTo_1 : decode cX10_turnsTo 1 = .ok (.getfield 7, 3) := by decide +kernel
theorem dX10_turnsTo_4 : decode cX10_turnsTo 4 = .ok (.sipush 260, 3) := by decide +kernel
theorem dX10_turnsTo_7 : decode cX10_turnsTo 7 = .ok (.iload_n 1, 1) := by decide +kernel
theorem dX10_turnsTo_8 : decode cX10_turnsTo 8 = .ok (.iadd, 1) := by decide +kernel
theorem dX10_turnsTo_9 : decode cX10_turnsTo 9 = .ok (.iaload, 1) := by decide +kernel
theorem dX10_turnsTo_10 : decode cX10_turnsTo 10 = .ok (.istore 4, 2) := by decide +kernel
theorem dX10_turnsTo_12 : decode cX10_turnsTo 12 = .ok (.iconst 0, 1) := by decide +kernel
theorem dX10_turnsTo_13 : decode cX10_turnsTo 13 = .ok (.istore 5, 2) := by decide +kernel
theorem dX10_turnsTo_15 : decode cX10_turnsTo 15 = .ok (.iload 5, 2) := by decide +kernel
theorem dX10_turnsTo_17 : decode cX10_turnsTo 17 = .ok (.bipush 16, 2) := by decide +kernel
theorem dX10_turnsTo_19 : decode cX10_turnsTo 19 = .ok (.if_icmp .ge 22, 3) := by decide +kernel
theorem dX10_turnsTo_22 : decode cX10_turnsTo 22 = .ok (.aload_n 0, 1) := by decide +kernel
theorem dX10_turnsTo_23 : decode cX10_turnsTo 23 = .ok (.getfield 25, 3) := by decide +kernel
theorem dX10_turnsTo_26 : decode cX10_turnsTo 26 = .ok (.iload 5, 2) := by decide +kernel
theorem dX10_turnsTo_28 : decode cX10_turnsTo 28 = .ok (.aload_n 0, 1) := by decide +kernel
theorem dX10_turnsTo_29 : decode cX10_turnsTo 29 = .ok (.iload 5, 2) := by decide +kernel
theorem dX10_turnsTo_31 : decode cX10_turnsTo 31 = .ok (.invokevirtual 73, 3) := by decide +kernel
theorem dX10_turnsTo_34 : decode cX10_turnsTo 34 = .ok (.iastore, 1) := by decide +kernel
theorem dX10_turnsTo_35 : decode cX10_turnsTo 35 = .ok (.iinc 5 1, 3) := by decide +kernel
theorem dX10_turnsTo_38 : decode cX10_turnsTo 38 = .ok (.goto (-23), 3) := by decide +kernel
theorem dX10_turnsTo_41 : decode cX10_turnsTo 41 = .ok (.aload_n 0, 1) := by decide +kernel
theorem dX10_turnsTo_42 : decode cX10_turnsTo 42 = .ok (.getfield 7, 3) := by decide +kernel
theorem dX10_turnsTo_45 : decode cX10_turnsTo 45 = .ok (.sipush 260, 3) := by decide +kernel
theorem dX10_turnsTo_48 : decode cX10_turnsTo 48 = .ok (.iload_n 1, 1) := by decide +kernel
theorem dX10_turnsTo_49 : decode cX10_turnsTo 49 = .ok (.iadd, 1) := by decide +kernel
theorem dX10_turnsTo_50 : decode cX10_turnsTo 50 = .ok (.iload_n 2, 1) := by decide +kernel
theorem dX10_turnsTo_51 : decode cX10_turnsTo 51 = .ok (.iastore, 1) := by decide +kernel
theorem dX10_turnsTo_52 : decode cX10_turnsTo 52 = .ok (.iconst 0, 1) := by decide +kernel
theorem dX10_turnsTo_53 : decode cX10_turnsTo 53 = .ok (.istore 5, 2) := by decide +kernel
theorem dX10_turnsTo_55 : decode cX10_turnsTo 55 = .ok (.iconst 0, 1) := by decide +kernel
theorem dX10_turnsTo_56 : decode cX10_turnsTo 56 = .ok (.istore 6, 2) := by decide +kernel
theorem dX10_turnsTo_58 : decode cX10_turnsTo 58 = .ok (.iload 6, 2) := by decide +kernel
theorem dX10_turnsTo_60 : decode cX10_turnsTo 60 = .ok (.aload_n 0, 1) := by decide +kernel
theorem dX10_turnsTo_61 : decode cX10_turnsTo 61 = .ok (.getfield 7, 3) := by decide +kernel
theorem dX10_turnsTo_64 : decode cX10_turnsTo 64 = .ok (.sipush 282, 3) := by decide +kernel
theorem dX10_turnsTo_67 : decode cX10_turnsTo 67 = .ok (.iaload, 1) := by decide +kernel
theorem dX10_turnsTo_68 : decode cX10_turnsTo 68 = .ok (.if_icmp .ge 72, 3) := by decide +kernel
theorem dX10_turnsTo_71 : decode cX10_turnsTo 71 = .ok (.iconst 0, 1) := by decide +kernel
theorem dX10_turnsTo_72 : decode cX10_turnsTo 72 = .ok (.istore 7, 2) := by decide +kernel
theorem dX10_turnsTo_74 : decode cX10_turnsTo 74 = .ok (.iload 7, 2) := by decide +kernel
theorem dX10_turnsTo_76 : decode cX10_turnsTo 76 = .ok (.aload_n 0, 1) := by decide +kernel
theorem dX10_turnsTo_77 : decode cX10_turnsTo 77 = .ok (.iload 6, 2) := by decide +kernel
theorem dX10_turnsTo_79 : decode cX10_turnsTo 79 = .ok (.iconst 4, 1) := by decide +kernel
theorem dX10_turnsTo_80 : decode cX10_turnsTo 80 = .ok (.invokevirtual 47, 3) := by decide +kernel
theorem dX10_turnsTo_83 : decode cX10_turnsTo 83 = .ok (.if_icmp .ge 51, 3) := by decide +kernel
theorem dX10_turnsTo_86 : decode cX10_turnsTo 86 = .ok (.iload 5, 2) := by decide +kernel
theorem dX10_turnsTo_88 : decode cX10_turnsTo 88 = .ok (.aload_n 0, 1) := by decide +kernel
theorem dX10_turnsTo_89 : decode cX10_turnsTo 89 = .ok (.aload_n 0, 1) := by decide +kernel
theorem dX10_turnsTo_90 : decode cX10_turnsTo 90 = .ok (.iload 6, 2) := by decide +kernel
theorem dX10_turnsTo_92 : decode cX10_turnsTo 92 = .ok (.iconst 5, 1) := by decide +kernel
theorem dX10_turnsTo_93 : decode cX10_turnsTo 93 = .ok (.iload 7, 2) := by decide +kernel
theorem dX10_turnsTo_95 : decode cX10_turnsTo 95 = .ok (.iadd, 1) := by decide +kernel
theorem dX10_turnsTo_96 : decode cX10_turnsTo 96 = .ok (.invokevirtual 47, 3) := by decide +kernel
theorem dX10_turnsTo_99 : decode cX10_turnsTo 99 = .ok (.invokevirtual 73, 3) := by decide +kernel
theorem dX10_turnsTo_102 : decode cX10_turnsTo 102 = .ok (.aload_n 0, 1) := by decide +kernel
theorem dX10_turnsTo_103 : decode cX10_turnsTo 103 = .ok (.getfield 25, 3) := by decide +kernel
theorem dX10_turnsTo_106 : decode cX10_turnsTo 106 = .ok (.aload_n 0, 1) := by decide +kernel
theorem dX10_turnsTo_107 : decode cX10_turnsTo 107 = .ok (.iload 6, 2) := by decide +kernel
theorem dX10_turnsTo_109 : decode cX10_turnsTo 109 = .ok (.iconst 5, 1) := by decide +kernel
theorem dX10_turnsTo_110 : decode cX10_turnsTo 110 = .ok (.iload 7, 2) := by decide +kernel
theorem dX10_turnsTo_112 : decode cX10_turnsTo 112 = .ok (.iadd, 1) := by decide +kernel
theorem dX10_turnsTo_113 : decode cX10_turnsTo 113 = .ok (.invokevirtual 47, 3) := by decide +kernel
theorem dX10_turnsTo_116 : decode cX10_turnsTo 116 = .ok (.iaload, 1) := by decide +kernel
theorem dX10_turnsTo_117 : decode cX10_turnsTo 117 = .ok (.if_icmp .eq 7, 3) := by decide +kernel
theorem dX10_turnsTo_120 : decode cX10_turnsTo 120 = .ok (.iconst 1, 1) := by decide +kernel
theorem dX10_turnsTo_121 : decode cX10_turnsTo 121 = .ok (.goto 4, 3) := by decide +kernel
theorem dX10_turnsTo_124 : decode cX10_turnsTo 124 = .ok (.iconst 0, 1) := by decide +kernel
theorem dX10_turnsTo_125 : decode cX10_turnsTo 125 = .ok (.iadd, 1) := by decide +kernel
theorem dX10_turnsTo_126 : decode cX10_turnsTo 126 = .ok (.istore 5, 2) := by decide +kernel
theorem dX10_turnsTo_128 : decode cX10_turnsTo 128 = .ok (.iinc 7 1, 3) := by decide +kernel
theorem dX10_turnsTo_131 : decode cX10_turnsTo 131 = .ok (.goto (-57), 3) := by decide +kernel
theorem dX10_turnsTo_134 : decode cX10_turnsTo 134 = .ok (.iinc 6 1, 3) := by decide +kernel
theorem dX10_turnsTo_137 : decode cX10_turnsTo 137 = .ok (.goto (-79), 3) := by decide +kernel
theorem dX10_turnsTo_140 : decode cX10_turnsTo 140 = .ok (.aload_n 0, 1) := by decide +kernel
theorem dX10_turnsTo_141 : decode cX10_turnsTo 141 = .ok (.getfield 7, 3) := by decide +kernel
theorem dX10_turnsTo_144 : decode cX10_turnsTo 144 = .ok (.sipush 260, 3) := by decide +kernel
theorem dX10_turnsTo_147 : decode cX10_turnsTo 147 = .ok (.iload_n 1, 1) := by decide +kernel
theorem dX10_turnsTo_148 : decode cX10_turnsTo 148 = .ok (.iadd, 1) := by decide +kernel
theorem dX10_turnsTo_149 : decode cX10_turnsTo 149 = .ok (.iload_n 3, 1) := by decide +kernel
theorem dX10_turnsTo_150 : decode cX10_turnsTo 150 = .ok (.ifCond .eq 7, 3) := by decide +kernel
theorem dX10_turnsTo_153 : decode cX10_turnsTo 153 = .ok (.iload_n 2, 1) := by decide +kernel
theorem dX10_turnsTo_154 : decode cX10_turnsTo 154 = .ok (.goto 5, 3) := by decide +kernel
theorem dX10_turnsTo_157 : decode cX10_turnsTo 157 = .ok (.iload 4, 2) := by decide +kernel
theorem dX10_turnsTo_159 : decode cX10_turnsTo 159 = .ok (.iastore, 1) := by decide +kernel
theorem dX10_turnsTo_160 : decode cX10_turnsTo 160 = .ok (.iload 5, 2) := by decide +kernel
theorem dX10_turnsTo_162 : decode cX10_turnsTo 162 = .ok (.ireturn, 1) := by decide +kernel
theorem dX10_mayCorrect_0 : decode cX10_mayCorrect 0 = .ok (.iload_n 1, 1) := by decide +kernel
theorem dX10_mayCorrect_1 : decode cX10_mayCorrect 1 = .ok (.invokestatic 70, 3) := by decide +kernel
theorem dX10_mayCorrect_4 : decode cX10_mayCorrect 4 = .ok (.ifCond .eq 15, 3) := by decide +kernel
theorem dX10_mayCorrect_7 : decode cX10_mayCorrect 7 = .ok (.iload_n 2, 1) := by decide +kernel
theorem dX10_mayCorrect_8 : decode cX10_mayCorrect 8 = .ok (.invokestatic 70, 3) := by decide +kernel
theorem dX10_mayCorrect_11 : decode cX10_mayCorrect 11 = .ok (.ifCond .eq 8, 3) := by decide +kernel
theorem dX10_mayCorrect_14 : decode cX10_mayCorrect 14 = .ok (.iload_n 1, 1) := by decide +kernel
theorem dX10_mayCorrect_15 : decode cX10_mayCorrect 15 = .ok (.iload_n 2, 1) := by decide +kernel
theorem dX10_mayCorrect_16 : decode cX10_mayCorrect 16 = .ok (.if_icmp .ne 8, 3) := by decide +kernel
theorem dX10_mayCorrect_19 : decode cX10_mayCorrect 19 = .ok (.ldc 50, 2) := by decide +kernel
theorem dX10_mayCorrect_21 : decode cX10_mayCorrect 21 = .ok (.goto 18, 3) := by decide +kernel
theorem dX10_mayCorrect_24 : decode cX10_mayCorrect 24 = .ok (.aload_n 0, 1) := by decide +kernel
theorem dX10_mayCorrect_25 : decode cX10_mayCorrect 25 = .ok (.iload_n 1, 1) := by decide +kernel
theorem dX10_mayCorrect_26 : decode cX10_mayCorrect 26 = .ok (.iload_n 2, 1) := by decide +kernel
theorem dX10_mayCorrect_27 : decode cX10_mayCorrect 27 = .ok (.invokevirtual 76, 3) := by decide +kernel
theorem dX10_mayCorrect_30 : decode cX10_mayCorrect 30 = .ok (.ifCond .eq 8, 3) := by decide +kernel
theorem dX10_mayCorrect_33 : decode cX10_mayCorrect 33 = .ok (.ldc 80, 2) := by decide +kernel
theorem dX10_mayCorrect_35 : decode cX10_mayCorrect 35 = .ok (.goto 4, 3) := by decide +kernel
theorem dX10_mayCorrect_38 : decode cX10_mayCorrect 38 = .ok (.iconst 0, 1) := by decide +kernel
theorem dX10_mayCorrect_39 : decode cX10_mayCorrect 39 = .ok (.ireturn, 1) := by decide +kernel
theorem dX10_correct_0 : decode cX10_correct 0 = .ok (.aload_n 0, 1) := by decide +kernel
theorem dX10_correct_1 : decode cX10_correct 1 = .ok (.iload_n 1, 1) := by decide +kernel
theorem dX10_correct_2 : decode cX10_correct 2 = .ok (.iload_n 2, 1) := by decide +kernel
theorem dX10_correct_3 : decode cX10_correct 3 = .ok (.invokevirtual 81, 3) := by decide +kernel
theorem dX10_correct_6 : decode cX10_correct 6 = .ok (.istore_n 3, 1) := by decide +kernel
theorem dX10_correct_7 : decode cX10_correct 7 = .ok (.iload_n 3, 1) := by decide +kernel
theorem dX10_correct_8 : decode cX10_correct 8 = .ok (.ifCond .ge 5, 3) := by decide +kernel
theorem dX10_correct_11 : decode cX10_correct 11 = .ok (.iload_n 3, 1) := by decide +kernel
theorem dX10_correct_12 : decode cX10_correct 12 = .ok (.ireturn, 1) := by decide +kernel
theorem dX10_correct_13 : decode cX10_correct 13 = .ok (.aload_n 0, 1) := by decide +kernel
theorem dX10_correct_14 : decode cX10_correct 14 = .ok (.invokevirtual 52, 3) := by decide +kernel
theorem dX10_correct_17 : decode cX10_correct 17 = .ok (.aload_n 0, 1) := by decide +kernel
theorem dX10_correct_18 : decode cX10_correct 18 = .ok (.iload_n 1, 1) := by decide +kernel
theorem dX10_correct_19 : decode cX10_correct 19 = .ok (.iload_n 2, 1) := by decide +kernel
theorem dX10_correct_20 : decode cX10_correct 20 = .ok (.iconst 1, 1) := by decide +kernel
theorem dX10_correct_21 : decode cX10_correct 21 = .ok (.invokevirtual 84, 3) := by decide +kernel
theorem dX10_correct_24 : decode cX10_correct 24 = .ok (.ireturn, 1) := by decide +kernel
theorem dX10_uncorrect_0 : decode cX10_uncorrect 0 = .ok (.iload_n 1, 1) := by decide +kernel
theorem dX10_uncorrect_1 : decode cX10_uncorrect 1 = .ok (.invokestatic 70, 3) := by decide +kernel
theorem dX10_uncorrect_4 : decode cX10_uncorrect 4 = .ok (.ifCond .ne 6, 3) := by decide +kernel
theorem dX10_uncorrect_7 : decode cX10_uncorrect 7 = .ok (.ldc 50, 2) := by decide +kernel
theorem dX10_uncorrect_9 : decode cX10_uncorrect 9 = .ok (.ireturn, 1) := by decide +kernel
theorem dX10_uncorrect_10 : decode cX10_uncorrect 10 = .ok (.aload_n 0, 1) := by decide +kernel
theorem dX10_uncorrect_11 : decode cX10_uncorrect 11 = .ok (.getfield 7, 3) := by decide +kernel
theorem dX10_uncorrect_14 : decode cX10_uncorrect 14 = .ok (.sipush 260, 3) := by decide +kernel
theorem dX10_uncorrect_17 : decode cX10_uncorrect 17 = .ok (.iload_n 1, 1) := by decide +kernel
theorem dX10_uncorrect_18 : decode cX10_uncorrect 18 = .ok (.iadd, 1) := by decide +kernel
theorem dX10_uncorrect_19 : decode cX10_uncorrect 19 = .ok (.iaload, 1) := by decide +kernel
theorem dX10_uncorrect_20 : decode cX10_uncorrect 20 = .ok (.ifCond .ge 6, 3) := by decide +kernel
theorem dX10_uncorrect_23 : decode cX10_uncorrect 23 = .ok (.ldc 80, 2) := by decide +kernel
theorem dX10_uncorrect_25 : decode cX10_uncorrect 25 = .ok (.ireturn, 1) := by decide +kernel
theorem dX10_uncorrect_26 : decode cX10_uncorrect 26 = .ok (.aload_n 0, 1) := by decide +kernel
theorem dX10_uncorrect_27 : decode cX10_uncorrect 27 = .ok (.invokevirtual 52, 3) := by decide +kernel
theorem dX10_uncorrect_30 : decode cX10_uncorrect 30 = .ok (.aload_n 0, 1) := by decide +kernel
theorem dX10_uncorrect_31 : decode cX10_uncorrect 31 = .ok (.iload_n 1, 1) := by decide +kernel
theorem dX10_uncorrect_32 : decode cX10_uncorrect 32 = .ok (.iconst (-1), 1) := by decide +kernel
theorem dX10_uncorrect_33 : decode cX10_uncorrect 33 = .ok (.iconst 1, 1) := by decide +kernel
theorem dX10_uncorrect_34 : decode cX10_uncorrect 34 = .ok (.invokevirtual 84, 3) := by decide +kernel
theorem dX10_uncorrect_37 : decode cX10_uncorrect 37 = .ok (.ireturn, 1) := by decide +kernel
theorem dX10_speaker_0 : decode cX10_speaker 0 = .ok (.iload_n 1, 1) := by decide +kernel
theorem dX10_speaker_1 : decode cX10_speaker 1 = .ok (.bipush 50, 2) := by decide +kernel
theorem dX10_speaker_3 : decode cX10_speaker 3 = .ok (.sipush 500, 3) := by decide +kernel
theorem dX10_speaker_6 : decode cX10_speaker 6 = .ok (.invokestatic 39, 3) := by decide +kernel
theorem dX10_speaker_9 : decode cX10_speaker 9 = .ok (.ifCond .ne 6, 3) := by decide +kernel
theorem dX10_speaker_12 : decode cX10_speaker 12 = .ok (.ldc 50, 2) := by decide +kernel
theorem dX10_speaker_14 : decode cX10_speaker 14 = .ok (.ireturn, 1) := by decide +kernel
theorem dX10_speaker_15 : decode cX10_speaker 15 = .ok (.iconst 0, 1) := by decide +kernel
theorem dX10_speaker_16 : decode cX10_speaker 16 = .ok (.istore_n 2, 1) := by decide +kernel
theorem dX10_speaker_17 : decode cX10_speaker 17 = .ok (.iload_n 2, 1) := by decide +kernel
theorem dX10_speaker_18 : decode cX10_speaker 18 = .ok (.bipush 6, 2) := by decide +kernel
theorem dX10_speaker_20 : decode cX10_speaker 20 = .ok (.if_icmp .ge 22, 3) := by decide +kernel
theorem dX10_speaker_23 : decode cX10_speaker 23 = .ok (.aload_n 0, 1) := by decide +kernel
theorem dX10_speaker_24 : decode cX10_speaker 24 = .ok (.getfield 7, 3) := by decide +kernel
theorem dX10_speaker_27 : decode cX10_speaker 27 = .ok (.sipush 276, 3) := by decide +kernel
theorem dX10_speaker_30 : decode cX10_speaker 30 = .ok (.iload_n 2, 1) := by decide +kernel
theorem dX10_speaker_31 : decode cX10_speaker 31 = .ok (.iadd, 1) := by decide +kernel
theorem dX10_speaker_32 : decode cX10_speaker 32 = .ok (.iaload, 1) := by decide +kernel
theorem dX10_speaker_33 : decode cX10_speaker 33 = .ok (.ifCond .le 9, 3) := by decide +kernel
theorem dX10_speaker_36 : decode cX10_speaker 36 = .ok (.iinc 2 1, 3) := by decide +kernel
theorem dX10_speaker_39 : decode cX10_speaker 39 = .ok (.goto (-22), 3) := by decide +kernel
theorem dX10_speaker_42 : decode cX10_speaker 42 = .ok (.iload_n 2, 1) := by decide +kernel
theorem dX10_speaker_43 : decode cX10_speaker 43 = .ok (.bipush 6, 2) := by decide +kernel
theorem dX10_speaker_45 : decode cX10_speaker 45 = .ok (.if_icmp .ne 6, 3) := by decide +kernel
theorem dX10_speaker_48 : decode cX10_speaker 48 = .ok (.ldc 51, 2) := by decide +kernel
theorem dX10_speaker_50 : decode cX10_speaker 50 = .ok (.ireturn, 1) := by decide +kernel
theorem dX10_speaker_51 : decode cX10_speaker 51 = .ok (.aload_n 0, 1) := by decide +kernel
theorem dX10_speaker_52 : decode cX10_speaker 52 = .ok (.invokevirtual 52, 3) := by decide +kernel
theorem dX10_speaker_55 : decode cX10_speaker 55 = .ok (.aload_n 0, 1) := by decide +kernel
theorem dX10_speaker_56 : decode cX10_speaker 56 = .ok (.getfield 7, 3) := by decide +kernel
theorem dX10_speaker_59 : decode cX10_speaker 59 = .ok (.sipush 276, 3) := by decide +kernel
theorem dX10_speaker_62 : decode cX10_speaker 62 = .ok (.iload_n 2, 1) := by decide +kernel
theorem dX10_speaker_63 : decode cX10_speaker 63 = .ok (.iadd, 1) := by decide +kernel
theorem dX10_speaker_64 : decode cX10_speaker 64 = .ok (.iload_n 1, 1) := by decide +kernel
theorem dX10_speaker_65 : decode cX10_speaker 65 = .ok (.iastore, 1) := by decide +kernel
theorem dX10_speaker_66 : decode cX10_speaker 66 = .ok (.iload_n 2, 1) := by decide +kernel
theorem dX10_speaker_67 : decode cX10_speaker 67 = .ok (.ireturn, 1) := by decide +kernel
theorem dX10_turnsOf_0 : decode cX10_turnsOf 0 = .ok (.iconst 0, 1) := by decide +kernel
theorem dX10_turnsOf_1 : decode cX10_turnsOf 1 = .ok (.istore_n 2, 1) := by decide +kernel
theorem dX10_turnsOf_2 : decode cX10_turnsOf 2 = .ok (.iconst 0, 1) := by decide +kernel
theorem dX10_turnsOf_3 : decode cX10_turnsOf 3 = .ok (.istore_n 3, 1) := by decide +kernel
theorem dX10_turnsOf_4 : decode cX10_turnsOf 4 = .ok (.iload_n 3, 1) := by decide +kernel
theorem dX10_turnsOf_5 : decode cX10_turnsOf 5 = .ok (.aload_n 0, 1) := by decide +kernel
theorem dX10_turnsOf_6 : decode cX10_turnsOf 6 = .ok (.getfield 7, 3) := by decide +kernel
theorem dX10_turnsOf_9 : decode cX10_turnsOf 9 = .ok (.sipush 282, 3) := by decide +kernel
theorem dX10_turnsOf_12 : decode cX10_turnsOf 12 = .ok (.iaload, 1) := by decide +kernel
theorem dX10_turnsOf_13 : decode cX10_turnsOf 13 = .ok (.if_icmp .ge 27, 3) := by decide +kernel
theorem dX10_turnsOf_16 : decode cX10_turnsOf 16 = .ok (.iload_n 2, 1) := by decide +kernel
theorem dX10_turnsOf_17 : decode cX10_turnsOf 17 = .ok (.aload_n 0, 1) := by decide +kernel
theorem dX10_turnsOf_18 : decode cX10_turnsOf 18 = .ok (.iload_n 3, 1) := by decide +kernel
theorem dX10_turnsOf_19 : decode cX10_turnsOf 19 = .ok (.iconst 3, 1) := by decide +kernel
theorem dX10_turnsOf_20 : decode cX10_turnsOf 20 = .ok (.invokevirtual 47, 3) := by decide +kernel
theorem dX10_turnsOf_23 : decode cX10_turnsOf 23 = .ok (.iload_n 1, 1) := by decide +kernel
theorem dX10_turnsOf_24 : decode cX10_turnsOf 24 = .ok (.if_icmp .ne 7, 3) := by decide +kernel
theorem dX10_turnsOf_27 : decode cX10_turnsOf 27 = .ok (.iconst 1, 1) := by decide +kernel
theorem dX10_turnsOf_28 : decode cX10_turnsOf 28 = .ok (.goto 4, 3) := by decide +kernel
theorem dX10_turnsOf_31 : decode cX10_turnsOf 31 = .ok (.iconst 0, 1) := by decide +kernel
theorem dX10_turnsOf_32 : decode cX10_turnsOf 32 = .ok (.iadd, 1) := by decide +kernel
theorem dX10_turnsOf_33 : decode cX10_turnsOf 33 = .ok (.istore_n 2, 1) := by decide +kernel
theorem dX10_turnsOf_34 : decode cX10_turnsOf 34 = .ok (.iinc 3 1, 3) := by decide +kernel
theorem dX10_turnsOf_37 : decode cX10_turnsOf 37 = .ok (.goto (-33), 3) := by decide +kernel
theorem dX10_turnsOf_40 : decode cX10_turnsOf 40 = .ok (.iload_n 2, 1) := by decide +kernel
theorem dX10_turnsOf_41 : decode cX10_turnsOf 41 = .ok (.ireturn, 1) := by decide +kernel
theorem dX10_tunes_0 : decode cX10_tunes 0 = .ok (.iconst 0, 1) := by decide +kernel
theorem dX10_tunes_1 : decode cX10_tunes 1 = .ok (.istore_n 2, 1) := by decide +kernel
theorem dX10_tunes_2 : decode cX10_tunes 2 = .ok (.iconst 0, 1) := by decide +kernel
theorem dX10_tunes_3 : decode cX10_tunes 3 = .ok (.istore_n 3, 1) := by decide +kernel
theorem dX10_tunes_4 : decode cX10_tunes 4 = .ok (.iload_n 3, 1) := by decide +kernel
theorem dX10_tunes_5 : decode cX10_tunes 5 = .ok (.aload_n 0, 1) := by decide +kernel
theorem dX10_tunes_6 : decode cX10_tunes 6 = .ok (.getfield 7, 3) := by decide +kernel
theorem dX10_tunes_9 : decode cX10_tunes 9 = .ok (.sipush 282, 3) := by decide +kernel
theorem dX10_tunes_12 : decode cX10_tunes 12 = .ok (.iaload, 1) := by decide +kernel
theorem dX10_tunes_13 : decode cX10_tunes 13 = .ok (.if_icmp .ge 32, 3) := by decide +kernel
theorem dX10_tunes_16 : decode cX10_tunes 16 = .ok (.iload_n 2, 1) := by decide +kernel
theorem dX10_tunes_17 : decode cX10_tunes 17 = .ok (.aload_n 0, 1) := by decide +kernel
theorem dX10_tunes_18 : decode cX10_tunes 18 = .ok (.iload_n 3, 1) := by decide +kernel
theorem dX10_tunes_19 : decode cX10_tunes 19 = .ok (.iconst 3, 1) := by decide +kernel
theorem dX10_tunes_20 : decode cX10_tunes 20 = .ok (.invokevirtual 47, 3) := by decide +kernel
theorem dX10_tunes_23 : decode cX10_tunes 23 = .ok (.iload_n 1, 1) := by decide +kernel
theorem dX10_tunes_24 : decode cX10_tunes 24 = .ok (.if_icmp .ne 12, 3) := by decide +kernel
theorem dX10_tunes_27 : decode cX10_tunes 27 = .ok (.aload_n 0, 1) := by decide +kernel
theorem dX10_tunes_28 : decode cX10_tunes 28 = .ok (.iload_n 3, 1) := by decide +kernel
theorem dX10_tunes_29 : decode cX10_tunes 29 = .ok (.iconst 2, 1) := by decide +kernel
theorem dX10_tunes_30 : decode cX10_tunes 30 = .ok (.invokevirtual 47, 3) := by decide +kernel
theorem dX10_tunes_33 : decode cX10_tunes 33 = .ok (.goto 4, 3) := by decide +kernel
theorem dX10_tunes_36 : decode cX10_tunes 36 = .ok (.iconst 0, 1) := by decide +kernel
theorem dX10_tunes_37 : decode cX10_tunes 37 = .ok (.iadd, 1) := by decide +kernel
theorem dX10_tunes_38 : decode cX10_tunes 38 = .ok (.istore_n 2, 1) := by decide +kernel
theorem dX10_tunes_39 : decode cX10_tunes 39 = .ok (.iinc 3 1, 3) := by decide +kernel
theorem dX10_tunes_42 : decode cX10_tunes 42 = .ok (.goto (-38), 3) := by decide +kernel
theorem dX10_tunes_45 : decode cX10_tunes 45 = .ok (.aload_n 0, 1) := by decide +kernel
theorem dX10_tunes_46 : decode cX10_tunes 46 = .ok (.iload_n 1, 1) := by decide +kernel
theorem dX10_tunes_47 : decode cX10_tunes 47 = .ok (.invokevirtual 88, 3) := by decide +kernel
theorem dX10_tunes_50 : decode cX10_tunes 50 = .ok (.istore_n 3, 1) := by decide +kernel
theorem dX10_tunes_51 : decode cX10_tunes 51 = .ok (.aload_n 0, 1) := by decide +kernel
theorem dX10_tunes_52 : decode cX10_tunes 52 = .ok (.getfield 7, 3) := by decide +kernel
theorem dX10_tunes_55 : decode cX10_tunes 55 = .ok (.sipush 276, 3) := by decide +kernel
theorem dX10_tunes_58 : decode cX10_tunes 58 = .ok (.iload_n 1, 1) := by decide +kernel
theorem dX10_tunes_59 : decode cX10_tunes 59 = .ok (.iadd, 1) := by decide +kernel
theorem dX10_tunes_60 : decode cX10_tunes 60 = .ok (.iload_n 3, 1) := by decide +kernel
theorem dX10_tunes_61 : decode cX10_tunes 61 = .ok (.ifCond .ne 16, 3) := by decide +kernel
theorem dX10_tunes_64 : decode cX10_tunes 64 = .ok (.aload_n 0, 1) := by decide +kernel
theorem dX10_tunes_65 : decode cX10_tunes 65 = .ok (.getfield 7, 3) := by decide +kernel
theorem dX10_tunes_68 : decode cX10_tunes 68 = .ok (.sipush 276, 3) := by decide +kernel
theorem dX10_tunes_71 : decode cX10_tunes 71 = .ok (.iload_n 1, 1) := by decide +kernel
theorem dX10_tunes_72 : decode cX10_tunes 72 = .ok (.iadd, 1) := by decide +kernel
theorem dX10_tunes_73 : decode cX10_tunes 73 = .ok (.iaload, 1) := by decide +kernel
theorem dX10_tunes_74 : decode cX10_tunes 74 = .ok (.goto 6, 3) := by decide +kernel
theorem dX10_tunes_77 : decode cX10_tunes 77 = .ok (.iload_n 2, 1) := by decide +kernel
theorem dX10_tunes_78 : decode cX10_tunes 78 = .ok (.iload_n 3, 1) := by decide +kernel
theorem dX10_tunes_79 : decode cX10_tunes 79 = .ok (.idiv, 1) := by decide +kernel
theorem dX10_tunes_80 : decode cX10_tunes 80 = .ok (.iastore, 1) := by decide +kernel
theorem dX10_tunes_81 : decode cX10_tunes 81 = .ok (.return_, 1) := by decide +kernel
theorem dX10_give_0 : decode cX10_give 0 = .ok (.aload_n 0, 1) := by decide +kernel
theorem dX10_give_1 : decode cX10_give 1 = .ok (.iload_n 1, 1) := by decide +kernel
theorem dX10_give_2 : decode cX10_give 2 = .ok (.invokevirtual 66, 3) := by decide +kernel
theorem dX10_give_5 : decode cX10_give 5 = .ok (.ifCond .eq 11, 3) := by decide +kernel
theorem dX10_give_8 : decode cX10_give 8 = .ok (.aload_n 0, 1) := by decide +kernel
theorem dX10_give_9 : decode cX10_give 9 = .ok (.iload_n 2, 1) := by decide +kernel
theorem dX10_give_10 : decode cX10_give 10 = .ok (.invokevirtual 91, 3) := by decide +kernel
theorem dX10_give_13 : decode cX10_give 13 = .ok (.ifCond .ne 6, 3) := by decide +kernel
theorem dX10_give_16 : decode cX10_give 16 = .ok (.ldc 50, 2) := by decide +kernel
theorem dX10_give_18 : decode cX10_give 18 = .ok (.ireturn, 1) := by decide +kernel
theorem dX10_give_19 : decode cX10_give 19 = .ok (.aload_n 0, 1) := by decide +kernel
theorem dX10_give_20 : decode cX10_give 20 = .ok (.iload_n 1, 1) := by decide +kernel
theorem dX10_give_21 : decode cX10_give 21 = .ok (.iconst 3, 1) := by decide +kernel
theorem dX10_give_22 : decode cX10_give 22 = .ok (.invokevirtual 47, 3) := by decide +kernel
theorem dX10_give_25 : decode cX10_give 25 = .ok (.iload_n 2, 1) := by decide +kernel
theorem dX10_give_26 : decode cX10_give 26 = .ok (.if_icmp .ne 6, 3) := by decide +kernel
theorem dX10_give_29 : decode cX10_give 29 = .ok (.ldc 80, 2) := by decide +kernel
theorem dX10_give_31 : decode cX10_give 31 = .ok (.ireturn, 1) := by decide +kernel
theorem dX10_give_32 : decode cX10_give 32 = .ok (.aload_n 0, 1) := by decide +kernel
theorem dX10_give_33 : decode cX10_give 33 = .ok (.invokevirtual 52, 3) := by decide +kernel
theorem dX10_give_36 : decode cX10_give 36 = .ok (.aload_n 0, 1) := by decide +kernel
theorem dX10_give_37 : decode cX10_give 37 = .ok (.iload_n 1, 1) := by decide +kernel
theorem dX10_give_38 : decode cX10_give 38 = .ok (.iconst 3, 1) := by decide +kernel
theorem dX10_give_39 : decode cX10_give 39 = .ok (.iload_n 2, 1) := by decide +kernel
theorem dX10_give_40 : decode cX10_give 40 = .ok (.invokevirtual 59, 3) := by decide +kernel
theorem dX10_give_43 : decode cX10_give 43 = .ok (.aload_n 0, 1) := by decide +kernel
theorem dX10_give_44 : decode cX10_give 44 = .ok (.iload_n 2, 1) := by decide +kernel
theorem dX10_give_45 : decode cX10_give 45 = .ok (.invokevirtual 94, 3) := by decide +kernel
theorem dX10_give_48 : decode cX10_give 48 = .ok (.aload_n 0, 1) := by decide +kernel
theorem dX10_give_49 : decode cX10_give 49 = .ok (.getfield 7, 3) := by decide +kernel
theorem dX10_give_52 : decode cX10_give 52 = .ok (.sipush 276, 3) := by decide +kernel
theorem dX10_give_55 : decode cX10_give 55 = .ok (.iload_n 2, 1) := by decide +kernel
theorem dX10_give_56 : decode cX10_give 56 = .ok (.iadd, 1) := by decide +kernel
theorem dX10_give_57 : decode cX10_give 57 = .ok (.iaload, 1) := by decide +kernel
theorem dX10_give_58 : decode cX10_give 58 = .ok (.ireturn, 1) := by decide +kernel
theorem dX10_join_0 : decode cX10_join 0 = .ok (.aload_n 0, 1) := by decide +kernel
theorem dX10_join_1 : decode cX10_join 1 = .ok (.iload_n 1, 1) := by decide +kernel
theorem dX10_join_2 : decode cX10_join 2 = .ok (.invokevirtual 91, 3) := by decide +kernel
theorem dX10_join_5 : decode cX10_join 5 = .ok (.ifCond .eq 16, 3) := by decide +kernel
theorem dX10_join_8 : decode cX10_join 8 = .ok (.aload_n 0, 1) := by decide +kernel
theorem dX10_join_9 : decode cX10_join 9 = .ok (.iload_n 2, 1) := by decide +kernel
theorem dX10_join_10 : decode cX10_join 10 = .ok (.invokevirtual 91, 3) := by decide +kernel
theorem dX10_join_13 : decode cX10_join 13 = .ok (.ifCond .eq 8, 3) := by decide +kernel
theorem dX10_join_16 : decode cX10_join 16 = .ok (.iload_n 1, 1) := by decide +kernel
theorem dX10_join_17 : decode cX10_join 17 = .ok (.iload_n 2, 1) := by decide +kernel
theorem dX10_join_18 : decode cX10_join 18 = .ok (.if_icmp .ne 6, 3) := by decide +kernel
theorem dX10_join_21 : decode cX10_join 21 = .ok (.ldc 50, 2) := by decide +kernel
theorem dX10_join_23 : decode cX10_join 23 = .ok (.ireturn, 1) := by decide +kernel
theorem dX10_join_24 : decode cX10_join 24 = .ok (.aload_n 0, 1) := by decide +kernel
theorem dX10_join_25 : decode cX10_join 25 = .ok (.invokevirtual 52, 3) := by decide +kernel
theorem dX10_join_28 : decode cX10_join 28 = .ok (.iconst 0, 1) := by decide +kernel
theorem dX10_join_29 : decode cX10_join 29 = .ok (.istore_n 3, 1) := by decide +kernel
theorem dX10_join_30 : decode cX10_join 30 = .ok (.iload_n 3, 1) := by decide +kernel
theorem dX10_join_31 : decode cX10_join 31 = .ok (.aload_n 0, 1) := by decide +kernel
theorem dX10_join_32 : decode cX10_join 32 = .ok (.getfield 7, 3) := by decide +kernel
theorem dX10_join_35 : decode cX10_join 35 = .ok (.sipush 282, 3) := by decide +kernel
theorem dX10_join_38 : decode cX10_join 38 = .ok (.iaload, 1) := by decide +kernel
theorem dX10_join_39 : decode cX10_join 39 = .ok (.if_icmp .ge 35, 3) := by decide +kernel
theorem dX10_join_42 : decode cX10_join 42 = .ok (.aload_n 0, 1) := by decide +kernel
theorem dX10_join_43 : decode cX10_join 43 = .ok (.iload_n 3, 1) := by decide +kernel
theorem dX10_join_44 : decode cX10_join 44 = .ok (.iconst 3, 1) := by decide +kernel
theorem dX10_join_45 : decode cX10_join 45 = .ok (.aload_n 0, 1) := by decide +kernel
theorem dX10_join_46 : decode cX10_join 46 = .ok (.iload_n 3, 1) := by decide +kernel
theorem dX10_join_47 : decode cX10_join 47 = .ok (.iconst 3, 1) := by decide +kernel
theorem dX10_join_48 : decode cX10_join 48 = .ok (.invokevirtual 47, 3) := by decide +kernel
theorem dX10_join_51 : decode cX10_join 51 = .ok (.iload_n 1, 1) := by decide +kernel
theorem dX10_join_52 : decode cX10_join 52 = .ok (.if_icmp .ne 7, 3) := by decide +kernel
theorem dX10_join_55 : decode cX10_join 55 = .ok (.iload_n 2, 1) := by decide +kernel
theorem dX10_join_56 : decode cX10_join 56 = .ok (.goto 9, 3) := by decide +kernel
theorem dX10_join_59 : decode cX10_join 59 = .ok (.aload_n 0, 1) := by decide +kernel
theorem dX10_join_60 : decode cX10_join 60 = .ok (.iload_n 3, 1) := by decide +kernel
theorem dX10_join_61 : decode cX10_join 61 = .ok (.iconst 3, 1) := by decide +kernel
theorem dX10_join_62 : decode cX10_join 62 = .ok (.invokevirtual 47, 3) := by decide +kernel
theorem dX10_join_65 : decode cX10_join 65 = .ok (.invokevirtual 59, 3) := by decide +kernel
theorem dX10_join_68 : decode cX10_join 68 = .ok (.iinc 3 1, 3) := by decide +kernel
theorem dX10_join_71 : decode cX10_join 71 = .ok (.goto (-41), 3) := by decide +kernel
theorem dX10_join_74 : decode cX10_join 74 = .ok (.aload_n 0, 1) := by decide +kernel
theorem dX10_join_75 : decode cX10_join 75 = .ok (.getfield 7, 3) := by decide +kernel
theorem dX10_join_78 : decode cX10_join 78 = .ok (.sipush 276, 3) := by decide +kernel
theorem dX10_join_81 : decode cX10_join 81 = .ok (.iload_n 1, 1) := by decide +kernel
theorem dX10_join_82 : decode cX10_join 82 = .ok (.iadd, 1) := by decide +kernel
theorem dX10_join_83 : decode cX10_join 83 = .ok (.iconst 0, 1) := by decide +kernel
theorem dX10_join_84 : decode cX10_join 84 = .ok (.iastore, 1) := by decide +kernel
theorem dX10_join_85 : decode cX10_join 85 = .ok (.aload_n 0, 1) := by decide +kernel
theorem dX10_join_86 : decode cX10_join 86 = .ok (.iload_n 2, 1) := by decide +kernel
theorem dX10_join_87 : decode cX10_join 87 = .ok (.invokevirtual 94, 3) := by decide +kernel
theorem dX10_join_90 : decode cX10_join 90 = .ok (.aload_n 0, 1) := by decide +kernel
theorem dX10_join_91 : decode cX10_join 91 = .ok (.iload_n 2, 1) := by decide +kernel
theorem dX10_join_92 : decode cX10_join 92 = .ok (.invokevirtual 88, 3) := by decide +kernel
theorem dX10_join_95 : decode cX10_join 95 = .ok (.ireturn, 1) := by decide +kernel
theorem dX10_set_0 : decode cX10_set 0 = .ok (.iload_n 1, 1) := by decide +kernel
theorem dX10_set_1 : decode cX10_set 1 = .ok (.ifCond .ne 14, 3) := by decide +kernel
theorem dX10_set_4 : decode cX10_set 4 = .ok (.iload_n 2, 1) := by decide +kernel
theorem dX10_set_5 : decode cX10_set 5 = .ok (.iconst 0, 1) := by decide +kernel
theorem dX10_set_6 : decode cX10_set 6 = .ok (.sipush 200, 3) := by decide +kernel
theorem dX10_set_9 : decode cX10_set 9 = .ok (.invokestatic 39, 3) := by decide +kernel
theorem dX10_set_12 : decode cX10_set 12 = .ok (.ifCond .ne 6, 3) := by decide +kernel
theorem dX10_set_15 : decode cX10_set 15 = .ok (.ldc 50, 2) := by decide +kernel
theorem dX10_set_17 : decode cX10_set 17 = .ok (.ireturn, 1) := by decide +kernel
theorem dX10_set_18 : decode cX10_set 18 = .ok (.aload_n 0, 1) := by decide +kernel
theorem dX10_set_19 : decode cX10_set 19 = .ok (.invokevirtual 52, 3) := by decide +kernel
theorem dX10_set_22 : decode cX10_set 22 = .ok (.aload_n 0, 1) := by decide +kernel
theorem dX10_set_23 : decode cX10_set 23 = .ok (.getfield 7, 3) := by decide +kernel
theorem dX10_set_26 : decode cX10_set 26 = .ok (.sipush 283, 3) := by decide +kernel
theorem dX10_set_29 : decode cX10_set 29 = .ok (.iaload, 1) := by decide +kernel
theorem dX10_set_30 : decode cX10_set 30 = .ok (.istore_n 3, 1) := by decide +kernel
theorem dX10_set_31 : decode cX10_set 31 = .ok (.aload_n 0, 1) := by decide +kernel
theorem dX10_set_32 : decode cX10_set 32 = .ok (.getfield 7, 3) := by decide +kernel
theorem dX10_set_35 : decode cX10_set 35 = .ok (.sipush 283, 3) := by decide +kernel
theorem dX10_set_38 : decode cX10_set 38 = .ok (.iload_n 2, 1) := by decide +kernel
theorem dX10_set_39 : decode cX10_set 39 = .ok (.iastore, 1) := by decide +kernel
theorem dX10_set_40 : decode cX10_set 40 = .ok (.iload_n 3, 1) := by decide +kernel
theorem dX10_set_41 : decode cX10_set 41 = .ok (.ireturn, 1) := by decide +kernel
theorem dX10_overlap_0 : decode cX10_overlap 0 = .ok (.iload_n 1, 1) := by decide +kernel
theorem dX10_overlap_1 : decode cX10_overlap 1 = .ok (.iload_n 2, 1) := by decide +kernel
theorem dX10_overlap_2 : decode cX10_overlap 2 = .ok (.if_icmp .eq 37, 3) := by decide +kernel
theorem dX10_overlap_5 : decode cX10_overlap 5 = .ok (.aload_n 0, 1) := by decide +kernel
theorem dX10_overlap_6 : decode cX10_overlap 6 = .ok (.iload_n 1, 1) := by decide +kernel
theorem dX10_overlap_7 : decode cX10_overlap 7 = .ok (.iconst 0, 1) := by decide +kernel
theorem dX10_overlap_8 : decode cX10_overlap 8 = .ok (.invokevirtual 47, 3) := by decide +kernel
theorem dX10_overlap_11 : decode cX10_overlap 11 = .ok (.aload_n 0, 1) := by decide +kernel
theorem dX10_overlap_12 : decode cX10_overlap 12 = .ok (.iload_n 2, 1) := by decide +kernel
theorem dX10_overlap_13 : decode cX10_overlap 13 = .ok (.iconst 1, 1) := by decide +kernel
theorem dX10_overlap_14 : decode cX10_overlap 14 = .ok (.invokevirtual 47, 3) := by decide +kernel
theorem dX10_overlap_17 : decode cX10_overlap 17 = .ok (.if_icmp .ge 22, 3) := by decide +kernel
theorem dX10_overlap_20 : decode cX10_overlap 20 = .ok (.aload_n 0, 1) := by decide +kernel
theorem dX10_overlap_21 : decode cX10_overlap 21 = .ok (.iload_n 2, 1) := by decide +kernel
theorem dX10_overlap_22 : decode cX10_overlap 22 = .ok (.iconst 0, 1) := by decide +kernel
theorem dX10_overlap_23 : decode cX10_overlap 23 = .ok (.invokevirtual 47, 3) := by decide +kernel
theorem dX10_overlap_26 : decode cX10_overlap 26 = .ok (.aload_n 0, 1) := by decide +kernel
theorem dX10_overlap_27 : decode cX10_overlap 27 = .ok (.iload_n 1, 1) := by decide +kernel
theorem dX10_overlap_28 : decode cX10_overlap 28 = .ok (.iconst 1, 1) := by decide +kernel
theorem dX10_overlap_29 : decode cX10_overlap 29 = .ok (.invokevirtual 47, 3) := by decide +kernel
theorem dX10_overlap_32 : decode cX10_overlap 32 = .ok (.if_icmp .ge 7, 3) := by decide +kernel
theorem dX10_overlap_35 : decode cX10_overlap 35 = .ok (.iconst 1, 1) := by decide +kernel
theorem dX10_overlap_36 : decode cX10_overlap 36 = .ok (.goto 4, 3) := by decide +kernel
theorem dX10_overlap_39 : decode cX10_overlap 39 = .ok (.iconst 0, 1) := by decide +kernel
theorem dX10_overlap_40 : decode cX10_overlap 40 = .ok (.ireturn, 1) := by decide +kernel
theorem dX10_interrupt_0 : decode cX10_interrupt 0 = .ok (.aload_n 0, 1) := by decide +kernel
theorem dX10_interrupt_1 : decode cX10_interrupt 1 = .ok (.iload_n 1, 1) := by decide +kernel
theorem dX10_interrupt_2 : decode cX10_interrupt 2 = .ok (.iconst 0, 1) := by decide +kernel
theorem dX10_interrupt_3 : decode cX10_interrupt 3 = .ok (.invokevirtual 47, 3) := by decide +kernel
theorem dX10_interrupt_6 : decode cX10_interrupt 6 = .ok (.aload_n 0, 1) := by decide +kernel
theorem dX10_interrupt_7 : decode cX10_interrupt 7 = .ok (.iload_n 2, 1) := by decide +kernel
theorem dX10_interrupt_8 : decode cX10_interrupt 8 = .ok (.iconst 0, 1) := by decide +kernel
theorem dX10_interrupt_9 : decode cX10_interrupt 9 = .ok (.invokevirtual 47, 3) := by decide +kernel
theorem dX10_interrupt_12 : decode cX10_interrupt 12 = .ok (.if_icmp .le 22, 3) := by decide +kernel
theorem dX10_interrupt_15 : decode cX10_interrupt 15 = .ok (.aload_n 0, 1) := by decide +kernel
theorem dX10_interrupt_16 : decode cX10_interrupt 16 = .ok (.iload_n 1, 1) := by decide +kernel
theorem dX10_interrupt_17 : decode cX10_interrupt 17 = .ok (.iconst 0, 1) := by decide +kernel
theorem dX10_interrupt_18 : decode cX10_interrupt 18 = .ok (.invokevirtual 47, 3) := by decide +kernel
theorem dX10_interrupt_21 : decode cX10_interrupt 21 = .ok (.aload_n 0, 1) := by decide +kernel
theorem dX10_interrupt_22 : decode cX10_interrupt 22 = .ok (.iload_n 2, 1) := by decide +kernel
theorem dX10_interrupt_23 : decode cX10_interrupt 23 = .ok (.iconst 1, 1) := by decide +kernel
theorem dX10_interrupt_24 : decode cX10_interrupt 24 = .ok (.invokevirtual 47, 3) := by decide +kernel
theorem dX10_interrupt_27 : decode cX10_interrupt 27 = .ok (.if_icmp .ge 7, 3) := by decide +kernel
theorem dX10_interrupt_30 : decode cX10_interrupt 30 = .ok (.iconst 1, 1) := by decide +kernel
theorem dX10_interrupt_31 : decode cX10_interrupt 31 = .ok (.goto 4, 3) := by decide +kernel
theorem dX10_interrupt_34 : decode cX10_interrupt 34 = .ok (.iconst 0, 1) := by decide +kernel
theorem dX10_interrupt_35 : decode cX10_interrupt 35 = .ok (.istore_n 3, 1) := by decide +kernel
theorem dX10_interrupt_36 : decode cX10_interrupt 36 = .ok (.iload_n 3, 1) := by decide +kernel
theorem dX10_interrupt_37 : decode cX10_interrupt 37 = .ok (.ifCond .eq 40, 3) := by decide +kernel
theorem dX10_interrupt_40 : decode cX10_interrupt 40 = .ok (.aload_n 0, 1) := by decide +kernel
theorem dX10_interrupt_41 : decode cX10_interrupt 41 = .ok (.iload_n 1, 1) := by decide +kernel
theorem dX10_interrupt_42 : decode cX10_interrupt 42 = .ok (.iconst 3, 1) := by decide +kernel
theorem dX10_interrupt_43 : decode cX10_interrupt 43 = .ok (.invokevirtual 47, 3) := by decide +kernel
theorem dX10_interrupt_46 : decode cX10_interrupt 46 = .ok (.ifCond .lt 31, 3) := by decide +kernel
theorem dX10_interrupt_49 : decode cX10_interrupt 49 = .ok (.aload_n 0, 1) := by decide +kernel
theorem dX10_interrupt_50 : decode cX10_interrupt 50 = .ok (.iload_n 2, 1) := by decide +kernel
theorem dX10_interrupt_51 : decode cX10_interrupt 51 = .ok (.iconst 3, 1) := by decide +kernel
theorem dX10_interrupt_52 : decode cX10_interrupt 52 = .ok (.invokevirtual 47, 3) := by decide +kernel
theorem dX10_interrupt_55 : decode cX10_interrupt 55 = .ok (.ifCond .lt 22, 3) := by decide +kernel
theorem dX10_interrupt_58 : decode cX10_interrupt 58 = .ok (.aload_n 0, 1) := by decide +kernel
theorem dX10_interrupt_59 : decode cX10_interrupt 59 = .ok (.iload_n 1, 1) := by decide +kernel
theorem dX10_interrupt_60 : decode cX10_interrupt 60 = .ok (.iconst 3, 1) := by decide +kernel
theorem dX10_interrupt_61 : decode cX10_interrupt 61 = .ok (.invokevirtual 47, 3) := by decide +kernel
theorem dX10_interrupt_64 : decode cX10_interrupt 64 = .ok (.aload_n 0, 1) := by decide +kernel
theorem dX10_interrupt_65 : decode cX10_interrupt 65 = .ok (.iload_n 2, 1) := by decide +kernel
theorem dX10_interrupt_66 : decode cX10_interrupt 66 = .ok (.iconst 3, 1) := by decide +kernel
theorem dX10_interrupt_67 : decode cX10_interrupt 67 = .ok (.invokevirtual 47, 3) := by decide +kernel
theorem dX10_interrupt_70 : decode cX10_interrupt 70 = .ok (.if_icmp .eq 7, 3) := by decide +kernel
theorem dX10_interrupt_73 : decode cX10_interrupt 73 = .ok (.iconst 1, 1) := by decide +kernel
theorem dX10_interrupt_74 : decode cX10_interrupt 74 = .ok (.goto 4, 3) := by decide +kernel
theorem dX10_interrupt_77 : decode cX10_interrupt 77 = .ok (.iconst 0, 1) := by decide +kernel
theorem dX10_interrupt_78 : decode cX10_interrupt 78 = .ok (.ireturn, 1) := by decide +kernel
theorem dX10_overlapping_0 : decode cX10_overlapping 0 = .ok (.iconst 0, 1) := by decide +kernel
theorem dX10_overlapping_1 : decode cX10_overlapping 1 = .ok (.istore_n 3, 1) := by decide +kernel
theorem dX10_overlapping_2 : decode cX10_overlapping 2 = .ok (.iconst 0, 1) := by decide +kernel
theorem dX10_overlapping_3 : decode cX10_overlapping 3 = .ok (.istore 4, 2) := by decide +kernel
theorem dX10_overlapping_5 : decode cX10_overlapping 5 = .ok (.iload 4, 2) := by decide +kernel
theorem dX10_overlapping_7 : decode cX10_overlapping 7 = .ok (.aload_n 0, 1) := by decide +kernel
theorem dX10_overlapping_8 : decode cX10_overlapping 8 = .ok (.getfield 7, 3) := by decide +kernel
theorem dX10_overlapping_11 : decode cX10_overlapping 11 = .ok (.sipush 282, 3) := by decide +kernel
theorem dX10_overlapping_14 : decode cX10_overlapping 14 = .ok (.iaload, 1) := by decide +kernel
theorem dX10_overlapping_15 : decode cX10_overlapping 15 = .ok (.if_icmp .ge 47, 3) := by decide +kernel
theorem dX10_overlapping_18 : decode cX10_overlapping 18 = .ok (.iload_n 3, 1) := by decide +kernel
theorem dX10_overlapping_19 : decode cX10_overlapping 19 = .ok (.iload_n 2, 1) := by decide +kernel
theorem dX10_overlapping_20 : decode cX10_overlapping 20 = .ok (.ifCond .eq 16, 3) := by decide +kernel
theorem dX10_overlapping_23 : decode cX10_overlapping 23 = .ok (.aload_n 0, 1) := by decide +kernel
theorem dX10_overlapping_24 : decode cX10_overlapping 24 = .ok (.iload_n 1, 1) := by decide +kernel
theorem dX10_overlapping_25 : decode cX10_overlapping 25 = .ok (.iload 4, 2) := by decide +kernel
theorem dX10_overlapping_27 : decode cX10_overlapping 27 = .ok (.invokevirtual 98, 3) := by decide +kernel
theorem dX10_overlapping_30 : decode cX10_overlapping 30 = .ok (.ifCond .eq 23, 3) := by decide +kernel
theorem dX10_overlapping_33 : decode cX10_overlapping 33 = .ok (.goto 13, 3) := by decide +kernel
theorem dX10_overlapping_36 : decode cX10_overlapping 36 = .ok (.aload_n 0, 1) := by decide +kernel
theorem dX10_overlapping_37 : decode cX10_overlapping 37 = .ok (.iload_n 1, 1) := by decide +kernel
theorem dX10_overlapping_38 : decode cX10_overlapping 38 = .ok (.iload 4, 2) := by decide +kernel
theorem dX10_overlapping_40 : decode cX10_overlapping 40 = .ok (.invokevirtual 101, 3) := by decide +kernel
theorem dX10_overlapping_43 : decode cX10_overlapping 43 = .ok (.ifCond .eq 10, 3) := by decide +kernel
theorem dX10_overlapping_46 : decode cX10_overlapping 46 = .ok (.iconst 1, 1) := by decide +kernel
theorem dX10_overlapping_47 : decode cX10_overlapping 47 = .ok (.iload 4, 2) := by decide +kernel
theorem dX10_overlapping_49 : decode cX10_overlapping 49 = .ok (.ishl, 1) := by decide +kernel
theorem dX10_overlapping_50 : decode cX10_overlapping 50 = .ok (.goto 4, 3) := by decide +kernel
theorem dX10_overlapping_53 : decode cX10_overlapping 53 = .ok (.iconst 0, 1) := by decide +kernel
theorem dX10_overlapping_54 : decode cX10_overlapping 54 = .ok (.ior, 1) := by decide +kernel
theorem dX10_overlapping_55 : decode cX10_overlapping 55 = .ok (.istore_n 3, 1) := by decide +kernel
theorem dX10_overlapping_56 : decode cX10_overlapping 56 = .ok (.iinc 4 1, 3) := by decide +kernel
theorem dX10_overlapping_59 : decode cX10_overlapping 59 = .ok (.goto (-54), 3) := by decide +kernel
theorem dX10_overlapping_62 : decode cX10_overlapping 62 = .ok (.iload_n 3, 1) := by decide +kernel
theorem dX10_overlapping_63 : decode cX10_overlapping 63 = .ok (.ireturn, 1) := by decide +kernel
theorem dX10_goesOn_0 : decode cX10_goesOn 0 = .ok (.aload_n 0, 1) := by decide +kernel
theorem dX10_goesOn_1 : decode cX10_goesOn 1 = .ok (.iload_n 1, 1) := by decide +kernel
theorem dX10_goesOn_2 : decode cX10_goesOn 2 = .ok (.iconst 0, 1) := by decide +kernel
theorem dX10_goesOn_3 : decode cX10_goesOn 3 = .ok (.invokevirtual 47, 3) := by decide +kernel
theorem dX10_goesOn_6 : decode cX10_goesOn 6 = .ok (.iload_n 2, 1) := by decide +kernel
theorem dX10_goesOn_7 : decode cX10_goesOn 7 = .ok (.if_icmp .gt 17, 3) := by decide +kernel
theorem dX10_goesOn_10 : decode cX10_goesOn 10 = .ok (.iload_n 2, 1) := by decide +kernel
theorem dX10_goesOn_11 : decode cX10_goesOn 11 = .ok (.aload_n 0, 1) := by decide +kernel
theorem dX10_goesOn_12 : decode cX10_goesOn 12 = .ok (.iload_n 1, 1) := by decide +kernel
theorem dX10_goesOn_13 : decode cX10_goesOn 13 = .ok (.iconst 1, 1) := by decide +kernel
theorem dX10_goesOn_14 : decode cX10_goesOn 14 = .ok (.invokevirtual 47, 3) := by decide +kernel
theorem dX10_goesOn_17 : decode cX10_goesOn 17 = .ok (.if_icmp .ge 7, 3) := by decide +kernel
theorem dX10_goesOn_20 : decode cX10_goesOn 20 = .ok (.iconst 1, 1) := by decide +kernel
theorem dX10_goesOn_21 : decode cX10_goesOn 21 = .ok (.goto 4, 3) := by decide +kernel
theorem dX10_goesOn_24 : decode cX10_goesOn 24 = .ok (.iconst 0, 1) := by decide +kernel
theorem dX10_goesOn_25 : decode cX10_goesOn 25 = .ok (.ireturn, 1) := by decide +kernel
theorem dX10_going_0 : decode cX10_going 0 = .ok (.iconst 0, 1) := by decide +kernel
theorem dX10_going_1 : decode cX10_going 1 = .ok (.istore_n 2, 1) := by decide +kernel
theorem dX10_going_2 : decode cX10_going 2 = .ok (.iconst 0, 1) := by decide +kernel
theorem dX10_going_3 : decode cX10_going 3 = .ok (.istore_n 3, 1) := by decide +kernel
theorem dX10_going_4 : decode cX10_going 4 = .ok (.iload_n 3, 1) := by decide +kernel
theorem dX10_going_5 : decode cX10_going 5 = .ok (.aload_n 0, 1) := by decide +kernel
theorem dX10_going_6 : decode cX10_going 6 = .ok (.getfield 7, 3) := by decide +kernel
theorem dX10_going_9 : decode cX10_going 9 = .ok (.sipush 282, 3) := by decide +kernel
theorem dX10_going_12 : decode cX10_going 12 = .ok (.iaload, 1) := by decide +kernel
theorem dX10_going_13 : decode cX10_going 13 = .ok (.if_icmp .ge 28, 3) := by decide +kernel
theorem dX10_going_16 : decode cX10_going 16 = .ok (.iload_n 2, 1) := by decide +kernel
theorem dX10_going_17 : decode cX10_going 17 = .ok (.aload_n 0, 1) := by decide +kernel
theorem dX10_going_18 : decode cX10_going 18 = .ok (.iload_n 3, 1) := by decide +kernel
theorem dX10_going_19 : decode cX10_going 19 = .ok (.iload_n 1, 1) := by decide +kernel
theorem dX10_going_20 : decode cX10_going 20 = .ok (.invokevirtual 104, 3) := by decide +kernel
theorem dX10_going_23 : decode cX10_going 23 = .ok (.ifCond .eq 9, 3) := by decide +kernel
theorem dX10_going_26 : decode cX10_going 26 = .ok (.iconst 1, 1) := by decide +kernel
theorem dX10_going_27 : decode cX10_going 27 = .ok (.iload_n 3, 1) := by decide +kernel
theorem dX10_going_28 : decode cX10_going 28 = .ok (.ishl, 1) := by decide +kernel
theorem dX10_going_29 : decode cX10_going 29 = .ok (.goto 4, 3) := by decide +kernel
theorem dX10_going_32 : decode cX10_going 32 = .ok (.iconst 0, 1) := by decide +kernel
theorem dX10_going_33 : decode cX10_going 33 = .ok (.ior, 1) := by decide +kernel
theorem dX10_going_34 : decode cX10_going 34 = .ok (.istore_n 2, 1) := by decide +kernel
theorem dX10_going_35 : decode cX10_going 35 = .ok (.iinc 3 1, 3) := by decide +kernel
theorem dX10_going_38 : decode cX10_going 38 = .ok (.goto (-34), 3) := by decide +kernel
theorem dX10_going_41 : decode cX10_going 41 = .ok (.iload_n 2, 1) := by decide +kernel
theorem dX10_going_42 : decode cX10_going 42 = .ok (.ireturn, 1) := by decide +kernel
theorem dX10_alone_0 : decode cX10_alone 0 = .ok (.iconst 0, 1) := by decide +kernel
theorem dX10_alone_1 : decode cX10_alone 1 = .ok (.istore_n 2, 1) := by decide +kernel
theorem dX10_alone_2 : decode cX10_alone 2 = .ok (.aload_n 0, 1) := by decide +kernel
theorem dX10_alone_3 : decode cX10_alone 3 = .ok (.iload_n 1, 1) := by decide +kernel
theorem dX10_alone_4 : decode cX10_alone 4 = .ok (.iconst 0, 1) := by decide +kernel
theorem dX10_alone_5 : decode cX10_alone 5 = .ok (.invokevirtual 47, 3) := by decide +kernel
theorem dX10_alone_8 : decode cX10_alone 8 = .ok (.istore_n 3, 1) := by decide +kernel
theorem dX10_alone_9 : decode cX10_alone 9 = .ok (.iload_n 3, 1) := by decide +kernel
theorem dX10_alone_10 : decode cX10_alone 10 = .ok (.aload_n 0, 1) := by decide +kernel
theorem dX10_alone_11 : decode cX10_alone 11 = .ok (.iload_n 1, 1) := by decide +kernel
theorem dX10_alone_12 : decode cX10_alone 12 = .ok (.iconst 1, 1) := by decide +kernel
theorem dX10_alone_13 : decode cX10_alone 13 = .ok (.invokevirtual 47, 3) := by decide +kernel
theorem dX10_alone_16 : decode cX10_alone 16 = .ok (.if_icmp .ge 28, 3) := by decide +kernel
theorem dX10_alone_19 : decode cX10_alone 19 = .ok (.iload_n 2, 1) := by decide +kernel
theorem dX10_alone_20 : decode cX10_alone 20 = .ok (.aload_n 0, 1) := by decide +kernel
theorem dX10_alone_21 : decode cX10_alone 21 = .ok (.iload_n 3, 1) := by decide +kernel
theorem dX10_alone_22 : decode cX10_alone 22 = .ok (.invokevirtual 107, 3) := by decide +kernel
theorem dX10_alone_25 : decode cX10_alone 25 = .ok (.iconst 1, 1) := by decide +kernel
theorem dX10_alone_26 : decode cX10_alone 26 = .ok (.iload_n 1, 1) := by decide +kernel
theorem dX10_alone_27 : decode cX10_alone 27 = .ok (.ishl, 1) := by decide +kernel
theorem dX10_alone_28 : decode cX10_alone 28 = .ok (.if_icmp .ne 7, 3) := by decide +kernel
theorem dX10_alone_31 : decode cX10_alone 31 = .ok (.iconst 1, 1) := by decide +kernel
theorem dX10_alone_32 : decode cX10_alone 32 = .ok (.goto 4, 3) := by decide +kernel
theorem dX10_alone_35 : decode cX10_alone 35 = .ok (.iconst 0, 1) := by decide +kernel
theorem dX10_alone_36 : decode cX10_alone 36 = .ok (.iadd, 1) := by decide +kernel
theorem dX10_alone_37 : decode cX10_alone 37 = .ok (.istore_n 2, 1) := by decide +kernel
theorem dX10_alone_38 : decode cX10_alone 38 = .ok (.iinc 3 1, 3) := by decide +kernel
theorem dX10_alone_41 : decode cX10_alone 41 = .ok (.goto (-32), 3) := by decide +kernel
theorem dX10_alone_44 : decode cX10_alone 44 = .ok (.iload_n 2, 1) := by decide +kernel
theorem dX10_alone_45 : decode cX10_alone 45 = .ok (.ireturn, 1) := by decide +kernel
theorem dX10_turnOf_0 : decode cX10_turnOf 0 = .ok (.aload_n 0, 1) := by decide +kernel
theorem dX10_turnOf_1 : decode cX10_turnOf 1 = .ok (.iload_n 1, 1) := by decide +kernel
theorem dX10_turnOf_2 : decode cX10_turnOf 2 = .ok (.invokevirtual 66, 3) := by decide +kernel
theorem dX10_turnOf_5 : decode cX10_turnOf 5 = .ok (.ifCond .eq 13, 3) := by decide +kernel
theorem dX10_turnOf_8 : decode cX10_turnOf 8 = .ok (.iload_n 2, 1) := by decide +kernel
theorem dX10_turnOf_9 : decode cX10_turnOf 9 = .ok (.iconst 0, 1) := by decide +kernel
theorem dX10_turnOf_10 : decode cX10_turnOf 10 = .ok (.bipush 7, 2) := by decide +kernel
theorem dX10_turnOf_12 : decode cX10_turnOf 12 = .ok (.invokestatic 39, 3) := by decide +kernel
theorem dX10_turnOf_15 : decode cX10_turnOf 15 = .ok (.ifCond .ne 6, 3) := by decide +kernel
theorem dX10_turnOf_18 : decode cX10_turnOf 18 = .ok (.ldc 50, 2) := by decide +kernel
theorem dX10_turnOf_20 : decode cX10_turnOf 20 = .ok (.ireturn, 1) := by decide +kernel
theorem dX10_turnOf_21 : decode cX10_turnOf 21 = .ok (.iload_n 2, 1) := by decide +kernel
theorem dX10_turnOf_22 : decode cX10_turnOf 22 = .ok (.tableswitch 78 3 7 #[34, 78, 55, 55, 72], 34) := by decide +kernel
theorem dX10_turnOf_56 : decode cX10_turnOf 56 = .ok (.aload_n 0, 1) := by decide +kernel
theorem dX10_turnOf_57 : decode cX10_turnOf 57 = .ok (.iload_n 1, 1) := by decide +kernel
theorem dX10_turnOf_58 : decode cX10_turnOf 58 = .ok (.iconst 3, 1) := by decide +kernel
theorem dX10_turnOf_59 : decode cX10_turnOf 59 = .ok (.invokevirtual 47, 3) := by decide +kernel
theorem dX10_turnOf_62 : decode cX10_turnOf 62 = .ok (.ifCond .ge 8, 3) := by decide +kernel
theorem dX10_turnOf_65 : decode cX10_turnOf 65 = .ok (.ldc 110, 2) := by decide +kernel
theorem dX10_turnOf_67 : decode cX10_turnOf 67 = .ok (.goto 9, 3) := by decide +kernel
theorem dX10_turnOf_70 : decode cX10_turnOf 70 = .ok (.aload_n 0, 1) := by decide +kernel
theorem dX10_turnOf_71 : decode cX10_turnOf 71 = .ok (.iload_n 1, 1) := by decide +kernel
theorem dX10_turnOf_72 : decode cX10_turnOf 72 = .ok (.iconst 3, 1) := by decide +kernel
theorem dX10_turnOf_73 : decode cX10_turnOf 73 = .ok (.invokevirtual 47, 3) := by decide +kernel
theorem dX10_turnOf_76 : decode cX10_turnOf 76 = .ok (.ireturn, 1) := by decide +kernel
theorem dX10_turnOf_77 : decode cX10_turnOf 77 = .ok (.aload_n 0, 1) := by decide +kernel
theorem dX10_turnOf_78 : decode cX10_turnOf 78 = .ok (.iload_n 1, 1) := by decide +kernel
theorem dX10_turnOf_79 : decode cX10_turnOf 79 = .ok (.iload_n 2, 1) := by decide +kernel
theorem dX10_turnOf_80 : decode cX10_turnOf 80 = .ok (.bipush 6, 2) := by decide +kernel
theorem dX10_turnOf_82 : decode cX10_turnOf 82 = .ok (.if_icmp .ne 7, 3) := by decide +kernel
theorem dX10_turnOf_85 : decode cX10_turnOf 85 = .ok (.iconst 1, 1) := by decide +kernel
theorem dX10_turnOf_86 : decode cX10_turnOf 86 = .ok (.goto 4, 3) := by decide +kernel
theorem dX10_turnOf_89 : decode cX10_turnOf 89 = .ok (.iconst 0, 1) := by decide +kernel
theorem dX10_turnOf_90 : decode cX10_turnOf 90 = .ok (.invokevirtual 111, 3) := by decide +kernel
theorem dX10_turnOf_93 : decode cX10_turnOf 93 = .ok (.ireturn, 1) := by decide +kernel
theorem dX10_turnOf_94 : decode cX10_turnOf 94 = .ok (.aload_n 0, 1) := by decide +kernel
theorem dX10_turnOf_95 : decode cX10_turnOf 95 = .ok (.iload_n 1, 1) := by decide +kernel
theorem dX10_turnOf_96 : decode cX10_turnOf 96 = .ok (.invokevirtual 115, 3) := by decide +kernel
theorem dX10_turnOf_99 : decode cX10_turnOf 99 = .ok (.ireturn, 1) := by decide +kernel
theorem dX10_turnOf_100 : decode cX10_turnOf 100 = .ok (.aload_n 0, 1) := by decide +kernel
theorem dX10_turnOf_101 : decode cX10_turnOf 101 = .ok (.iload_n 1, 1) := by decide +kernel
theorem dX10_turnOf_102 : decode cX10_turnOf 102 = .ok (.iload_n 2, 1) := by decide +kernel
theorem dX10_turnOf_103 : decode cX10_turnOf 103 = .ok (.invokevirtual 47, 3) := by decide +kernel
theorem dX10_turnOf_106 : decode cX10_turnOf 106 = .ok (.ireturn, 1) := by decide +kernel
theorem dX10_termAt_0 : decode cX10_termAt 0 = .ok (.aload_n 0, 1) := by decide +kernel
theorem dX10_termAt_1 : decode cX10_termAt 1 = .ok (.iload_n 1, 1) := by decide +kernel
theorem dX10_termAt_2 : decode cX10_termAt 2 = .ok (.invokevirtual 66, 3) := by decide +kernel
theorem dX10_termAt_5 : decode cX10_termAt 5 = .ok (.ifCond .eq 16, 3) := by decide +kernel
theorem dX10_termAt_8 : decode cX10_termAt 8 = .ok (.iload_n 2, 1) := by decide +kernel
theorem dX10_termAt_9 : decode cX10_termAt 9 = .ok (.ifCond .lt 12, 3) := by decide +kernel
theorem dX10_termAt_12 : decode cX10_termAt 12 = .ok (.iload_n 3, 1) := by decide +kernel
theorem dX10_termAt_13 : decode cX10_termAt 13 = .ok (.iconst 0, 1) := by decide +kernel
theorem dX10_termAt_14 : decode cX10_termAt 14 = .ok (.iconst 1, 1) := by decide +kernel
theorem dX10_termAt_15 : decode cX10_termAt 15 = .ok (.invokestatic 39, 3) := by decide +kernel
theorem dX10_termAt_18 : decode cX10_termAt 18 = .ok (.ifCond .ne 6, 3) := by decide +kernel
theorem dX10_termAt_21 : decode cX10_termAt 21 = .ok (.ldc 50, 2) := by decide +kernel
theorem dX10_termAt_23 : decode cX10_termAt 23 = .ok (.ireturn, 1) := by decide +kernel
theorem dX10_termAt_24 : decode cX10_termAt 24 = .ok (.iload_n 2, 1) := by decide +kernel
theorem dX10_termAt_25 : decode cX10_termAt 25 = .ok (.aload_n 0, 1) := by decide +kernel
theorem dX10_termAt_26 : decode cX10_termAt 26 = .ok (.iload_n 1, 1) := by decide +kernel
theorem dX10_termAt_27 : decode cX10_termAt 27 = .ok (.iconst 4, 1) := by decide +kernel
theorem dX10_termAt_28 : decode cX10_termAt 28 = .ok (.invokevirtual 47, 3) := by decide +kernel
theorem dX10_termAt_31 : decode cX10_termAt 31 = .ok (.if_icmp .lt 6, 3) := by decide +kernel
theorem dX10_termAt_34 : decode cX10_termAt 34 = .ok (.ldc 110, 2) := by decide +kernel
theorem dX10_termAt_36 : decode cX10_termAt 36 = .ok (.ireturn, 1) := by decide +kernel
theorem dX10_termAt_37 : decode cX10_termAt 37 = .ok (.aload_n 0, 1) := by decide +kernel
theorem dX10_termAt_38 : decode cX10_termAt 38 = .ok (.iload_n 1, 1) := by decide +kernel
theorem dX10_termAt_39 : decode cX10_termAt 39 = .ok (.iconst 5, 1) := by decide +kernel
theorem dX10_termAt_40 : decode cX10_termAt 40 = .ok (.iload_n 2, 1) := by decide +kernel
theorem dX10_termAt_41 : decode cX10_termAt 41 = .ok (.iadd, 1) := by decide +kernel
theorem dX10_termAt_42 : decode cX10_termAt 42 = .ok (.invokevirtual 47, 3) := by decide +kernel
theorem dX10_termAt_45 : decode cX10_termAt 45 = .ok (.istore 4, 2) := by decide +kernel
theorem dX10_termAt_47 : decode cX10_termAt 47 = .ok (.iload_n 3, 1) := by decide +kernel
theorem dX10_termAt_48 : decode cX10_termAt 48 = .ok (.ifCond .ne 8, 3) := by decide +kernel
theorem dX10_termAt_51 : decode cX10_termAt 51 = .ok (.iload 4, 2) := by decide +kernel
theorem dX10_termAt_53 : decode cX10_termAt 53 = .ok (.goto 9, 3) := by decide +kernel
theorem dX10_termAt_56 : decode cX10_termAt 56 = .ok (.aload_n 0, 1) := by decide +kernel
theorem dX10_termAt_57 : decode cX10_termAt 57 = .ok (.iload 4, 2) := by decide +kernel
theorem dX10_termAt_59 : decode cX10_termAt 59 = .ok (.invokevirtual 73, 3) := by decide +kernel
theorem dX10_termAt_62 : decode cX10_termAt 62 = .ok (.ireturn, 1) := by decide +kernel
theorem dX10_chain_0 : decode cX10_chain 0 = .ok (.iconst 0, 1) := by decide +kernel
theorem dX10_chain_1 : decode cX10_chain 1 = .ok (.istore_n 2, 1) := by decide +kernel
theorem dX10_chain_2 : decode cX10_chain 2 = .ok (.iload_n 1, 1) := by decide +kernel
theorem dX10_chain_3 : decode cX10_chain 3 = .ok (.istore_n 3, 1) := by decide +kernel
theorem dX10_chain_4 : decode cX10_chain 4 = .ok (.aload_n 0, 1) := by decide +kernel
theorem dX10_chain_5 : decode cX10_chain 5 = .ok (.getfield 7, 3) := by decide +kernel
theorem dX10_chain_8 : decode cX10_chain 8 = .ok (.sipush 260, 3) := by decide +kernel
theorem dX10_chain_11 : decode cX10_chain 11 = .ok (.iload_n 3, 1) := by decide +kernel
theorem dX10_chain_12 : decode cX10_chain 12 = .ok (.iadd, 1) := by decide +kernel
theorem dX10_chain_13 : decode cX10_chain 13 = .ok (.iaload, 1) := by decide +kernel
theorem dX10_chain_14 : decode cX10_chain 14 = .ok (.ifCond .lt 20, 3) := by decide +kernel
theorem dX10_chain_17 : decode cX10_chain 17 = .ok (.iinc 2 1, 3) := by decide +kernel
theorem dX10_chain_20 : decode cX10_chain 20 = .ok (.aload_n 0, 1) := by decide +kernel
theorem dX10_chain_21 : decode cX10_chain 21 = .ok (.getfield 7, 3) := by decide +kernel
theorem dX10_chain_24 : decode cX10_chain 24 = .ok (.sipush 260, 3) := by decide +kernel
theorem dX10_chain_27 : decode cX10_chain 27 = .ok (.iload_n 3, 1) := by decide +kernel
theorem dX10_chain_28 : decode cX10_chain 28 = .ok (.iadd, 1) := by decide +kernel
theorem dX10_chain_29 : decode cX10_chain 29 = .ok (.iaload, 1) := by decide +kernel
theorem dX10_chain_30 : decode cX10_chain 30 = .ok (.istore_n 3, 1) := by decide +kernel
theorem dX10_chain_31 : decode cX10_chain 31 = .ok (.goto (-27), 3) := by decide +kernel
theorem dX10_chain_34 : decode cX10_chain 34 = .ok (.iload_n 2, 1) := by decide +kernel
theorem dX10_chain_35 : decode cX10_chain 35 = .ok (.ireturn, 1) := by decide +kernel
theorem dX10_shows_0 : decode cX10_shows 0 = .ok (.iconst 0, 1) := by decide +kernel
theorem dX10_shows_1 : decode cX10_shows 1 = .ok (.istore_n 3, 1) := by decide +kernel
theorem dX10_shows_2 : decode cX10_shows 2 = .ok (.iconst 0, 1) := by decide +kernel
theorem dX10_shows_3 : decode cX10_shows 3 = .ok (.istore 4, 2) := by decide +kernel
theorem dX10_shows_5 : decode cX10_shows 5 = .ok (.iload 4, 2) := by decide +kernel
theorem dX10_shows_7 : decode cX10_shows 7 = .ok (.aload_n 0, 1) := by decide +kernel
theorem dX10_shows_8 : decode cX10_shows 8 = .ok (.iload_n 1, 1) := by decide +kernel
theorem dX10_shows_9 : decode cX10_shows 9 = .ok (.iconst 4, 1) := by decide +kernel
theorem dX10_shows_10 : decode cX10_shows 10 = .ok (.invokevirtual 47, 3) := by decide +kernel
theorem dX10_shows_13 : decode cX10_shows 13 = .ok (.if_icmp .ge 34, 3) := by decide +kernel
theorem dX10_shows_16 : decode cX10_shows 16 = .ok (.iload_n 3, 1) := by decide +kernel
theorem dX10_shows_17 : decode cX10_shows 17 = .ok (.aload_n 0, 1) := by decide +kernel
theorem dX10_shows_18 : decode cX10_shows 18 = .ok (.aload_n 0, 1) := by decide +kernel
theorem dX10_shows_19 : decode cX10_shows 19 = .ok (.iload_n 1, 1) := by decide +kernel
theorem dX10_shows_20 : decode cX10_shows 20 = .ok (.iconst 5, 1) := by decide +kernel
theorem dX10_shows_21 : decode cX10_shows 21 = .ok (.iload 4, 2) := by decide +kernel
theorem dX10_shows_23 : decode cX10_shows 23 = .ok (.iadd, 1) := by decide +kernel
theorem dX10_shows_24 : decode cX10_shows 24 = .ok (.invokevirtual 47, 3) := by decide +kernel
theorem dX10_shows_27 : decode cX10_shows 27 = .ok (.invokevirtual 73, 3) := by decide +kernel
theorem dX10_shows_30 : decode cX10_shows 30 = .ok (.iload_n 2, 1) := by decide +kernel
theorem dX10_shows_31 : decode cX10_shows 31 = .ok (.if_icmp .ne 7, 3) := by decide +kernel
theorem dX10_shows_34 : decode cX10_shows 34 = .ok (.iconst 1, 1) := by decide +kernel
theorem dX10_shows_35 : decode cX10_shows 35 = .ok (.goto 4, 3) := by decide +kernel
theorem dX10_shows_38 : decode cX10_shows 38 = .ok (.iconst 0, 1) := by decide +kernel
theorem dX10_shows_39 : decode cX10_shows 39 = .ok (.iadd, 1) := by decide +kernel
theorem dX10_shows_40 : decode cX10_shows 40 = .ok (.istore_n 3, 1) := by decide +kernel
theorem dX10_shows_41 : decode cX10_shows 41 = .ok (.iinc 4 1, 3) := by decide +kernel
theorem dX10_shows_44 : decode cX10_shows 44 = .ok (.goto (-39), 3) := by decide +kernel
theorem dX10_shows_47 : decode cX10_shows 47 = .ok (.iload_n 3, 1) := by decide +kernel
theorem dX10_shows_48 : decode cX10_shows 48 = .ok (.ireturn, 1) := by decide +kernel
theorem dX10_showing_0 : decode cX10_showing 0 = .ok (.iconst 0, 1) := by decide +kernel
theorem dX10_showing_1 : decode cX10_showing 1 = .ok (.istore_n 3, 1) := by decide +kernel
theorem dX10_showing_2 : decode cX10_showing 2 = .ok (.iconst 0, 1) := by decide +kernel
theorem dX10_showing_3 : decode cX10_showing 3 = .ok (.istore 4, 2) := by decide +kernel
theorem dX10_showing_5 : decode cX10_showing 5 = .ok (.iload 4, 2) := by decide +kernel
theorem dX10_showing_7 : decode cX10_showing 7 = .ok (.aload_n 0, 1) := by decide +kernel
theorem dX10_showing_8 : decode cX10_showing 8 = .ok (.getfield 7, 3) := by decide +kernel
theorem dX10_showing_11 : decode cX10_showing 11 = .ok (.sipush 282, 3) := by decide +kernel
theorem dX10_showing_14 : decode cX10_showing 14 = .ok (.iaload, 1) := by decide +kernel
theorem dX10_showing_15 : decode cX10_showing 15 = .ok (.if_icmp .ge 81, 3) := by decide +kernel
theorem dX10_showing_18 : decode cX10_showing 18 = .ok (.aload_n 0, 1) := by decide +kernel
theorem dX10_showing_19 : decode cX10_showing 19 = .ok (.iload 4, 2) := by decide +kernel
theorem dX10_showing_21 : decode cX10_showing 21 = .ok (.iload_n 1, 1) := by decide +kernel
theorem dX10_showing_22 : decode cX10_showing 22 = .ok (.invokevirtual 118, 3) := by decide +kernel
theorem dX10_showing_25 : decode cX10_showing 25 = .ok (.istore 5, 2) := by decide +kernel
theorem dX10_showing_27 : decode cX10_showing 27 = .ok (.aload_n 0, 1) := by decide +kernel
theorem dX10_showing_28 : decode cX10_showing 28 = .ok (.iload 4, 2) := by decide +kernel
theorem dX10_showing_30 : decode cX10_showing 30 = .ok (.iconst 3, 1) := by decide +kernel
theorem dX10_showing_31 : decode cX10_showing 31 = .ok (.invokevirtual 47, 3) := by decide +kernel
theorem dX10_showing_34 : decode cX10_showing 34 = .ok (.ifCond .lt 15, 3) := by decide +kernel
theorem dX10_showing_37 : decode cX10_showing 37 = .ok (.iconst 1, 1) := by decide +kernel
theorem dX10_showing_38 : decode cX10_showing 38 = .ok (.aload_n 0, 1) := by decide +kernel
theorem dX10_showing_39 : decode cX10_showing 39 = .ok (.iload 4, 2) := by decide +kernel
theorem dX10_showing_41 : decode cX10_showing 41 = .ok (.iconst 3, 1) := by decide +kernel
theorem dX10_showing_42 : decode cX10_showing 42 = .ok (.invokevirtual 47, 3) := by decide +kernel
theorem dX10_showing_45 : decode cX10_showing 45 = .ok (.ishl, 1) := by decide +kernel
theorem dX10_showing_46 : decode cX10_showing 46 = .ok (.goto 4, 3) := by decide +kernel
theorem dX10_showing_49 : decode cX10_showing 49 = .ok (.iconst 0, 1) := by decide +kernel
theorem dX10_showing_50 : decode cX10_showing 50 = .ok (.istore 6, 2) := by decide +kernel
theorem dX10_showing_52 : decode cX10_showing 52 = .ok (.iload_n 2, 1) := by decide +kernel
theorem dX10_showing_53 : decode cX10_showing 53 = .ok (.iconst 3, 1) := by decide +kernel
theorem dX10_showing_54 : decode cX10_showing 54 = .ok (.if_icmp .ne 10, 3) := by decide +kernel
theorem dX10_showing_57 : decode cX10_showing 57 = .ok (.iload_n 3, 1) := by decide +kernel
theorem dX10_showing_58 : decode cX10_showing 58 = .ok (.iload 5, 2) := by decide +kernel
theorem dX10_showing_60 : decode cX10_showing 60 = .ok (.iadd, 1) := by decide +kernel
theorem dX10_showing_61 : decode cX10_showing 61 = .ok (.goto 28, 3) := by decide +kernel
theorem dX10_showing_64 : decode cX10_showing 64 = .ok (.iload 5, 2) := by decide +kernel
theorem dX10_showing_66 : decode cX10_showing 66 = .ok (.ifCond .ne 7, 3) := by decide +kernel
theorem dX10_showing_69 : decode cX10_showing 69 = .ok (.iload_n 3, 1) := by decide +kernel
theorem dX10_showing_70 : decode cX10_showing 70 = .ok (.goto 19, 3) := by decide +kernel
theorem dX10_showing_73 : decode cX10_showing 73 = .ok (.iload_n 3, 1) := by decide +kernel
theorem dX10_showing_74 : decode cX10_showing 74 = .ok (.iload_n 2, 1) := by decide +kernel
theorem dX10_showing_75 : decode cX10_showing 75 = .ok (.iconst 4, 1) := by decide +kernel
theorem dX10_showing_76 : decode cX10_showing 76 = .ok (.if_icmp .ne 10, 3) := by decide +kernel
theorem dX10_showing_79 : decode cX10_showing 79 = .ok (.iconst 1, 1) := by decide +kernel
theorem dX10_showing_80 : decode cX10_showing 80 = .ok (.iload 4, 2) := by decide +kernel
theorem dX10_showing_82 : decode cX10_showing 82 = .ok (.ishl, 1) := by decide +kernel
theorem dX10_showing_83 : decode cX10_showing 83 = .ok (.goto 5, 3) := by decide +kernel
theorem dX10_showing_86 : decode cX10_showing 86 = .ok (.iload 6, 2) := by decide +kernel
theorem dX10_showing_88 : decode cX10_showing 88 = .ok (.ior, 1) := by decide +kernel
theorem dX10_showing_89 : decode cX10_showing 89 = .ok (.istore_n 3, 1) := by decide +kernel
theorem dX10_showing_90 : decode cX10_showing 90 = .ok (.iinc 4 1, 3) := by decide +kernel
theorem dX10_showing_93 : decode cX10_showing 93 = .ok (.goto (-88), 3) := by decide +kernel
theorem dX10_showing_96 : decode cX10_showing 96 = .ok (.iload_n 3, 1) := by decide +kernel
theorem dX10_showing_97 : decode cX10_showing 97 = .ok (.ireturn, 1) := by decide +kernel
theorem dX10_shownAs_0 : decode cX10_shownAs 0 = .ok (.iconst 0, 1) := by decide +kernel
theorem dX10_shownAs_1 : decode cX10_shownAs 1 = .ok (.istore_n 2, 1) := by decide +kernel
theorem dX10_shownAs_2 : decode cX10_shownAs 2 = .ok (.iconst 0, 1) := by decide +kernel
theorem dX10_shownAs_3 : decode cX10_shownAs 3 = .ok (.istore_n 3, 1) := by decide +kernel
theorem dX10_shownAs_4 : decode cX10_shownAs 4 = .ok (.iload_n 3, 1) := by decide +kernel
theorem dX10_shownAs_5 : decode cX10_shownAs 5 = .ok (.bipush 16, 2) := by decide +kernel
theorem dX10_shownAs_7 : decode cX10_shownAs 7 = .ok (.if_icmp .ge 28, 3) := by decide +kernel
theorem dX10_shownAs_10 : decode cX10_shownAs 10 = .ok (.iload_n 2, 1) := by decide +kernel
theorem dX10_shownAs_11 : decode cX10_shownAs 11 = .ok (.aload_n 0, 1) := by decide +kernel
theorem dX10_shownAs_12 : decode cX10_shownAs 12 = .ok (.iload_n 3, 1) := by decide +kernel
theorem dX10_shownAs_13 : decode cX10_shownAs 13 = .ok (.invokevirtual 73, 3) := by decide +kernel
theorem dX10_shownAs_16 : decode cX10_shownAs 16 = .ok (.iload_n 1, 1) := by decide +kernel
theorem dX10_shownAs_17 : decode cX10_shownAs 17 = .ok (.if_icmp .ne 9, 3) := by decide +kernel
theorem dX10_shownAs_20 : decode cX10_shownAs 20 = .ok (.iconst 1, 1) := by decide +kernel
theorem dX10_shownAs_21 : decode cX10_shownAs 21 = .ok (.iload_n 3, 1) := by decide +kernel
theorem dX10_shownAs_22 : decode cX10_shownAs 22 = .ok (.ishl, 1) := by decide +kernel
theorem dX10_shownAs_23 : decode cX10_shownAs 23 = .ok (.goto 4, 3) := by decide +kernel
theorem dX10_shownAs_26 : decode cX10_shownAs 26 = .ok (.iconst 0, 1) := by decide +kernel
theorem dX10_shownAs_27 : decode cX10_shownAs 27 = .ok (.ior, 1) := by decide +kernel
theorem dX10_shownAs_28 : decode cX10_shownAs 28 = .ok (.istore_n 2, 1) := by decide +kernel
theorem dX10_shownAs_29 : decode cX10_shownAs 29 = .ok (.iinc 3 1, 3) := by decide +kernel
theorem dX10_shownAs_32 : decode cX10_shownAs 32 = .ok (.goto (-28), 3) := by decide +kernel
theorem dX10_shownAs_35 : decode cX10_shownAs 35 = .ok (.iload_n 2, 1) := by decide +kernel
theorem dX10_shownAs_36 : decode cX10_shownAs 36 = .ok (.ireturn, 1) := by decide +kernel
theorem dX10_termOf_0 : decode cX10_termOf 0 = .ok (.iload_n 1, 1) := by decide +kernel
theorem dX10_termOf_1 : decode cX10_termOf 1 = .ok (.invokestatic 70, 3) := by decide +kernel
theorem dX10_termOf_4 : decode cX10_termOf 4 = .ok (.ifCond .eq 13, 3) := by decide +kernel
theorem dX10_termOf_7 : decode cX10_termOf 7 = .ok (.iload_n 2, 1) := by decide +kernel
theorem dX10_termOf_8 : decode cX10_termOf 8 = .ok (.iconst 0, 1) := by decide +kernel
theorem dX10_termOf_9 : decode cX10_termOf 9 = .ok (.bipush 6, 2) := by decide +kernel
theorem dX10_termOf_11 : decode cX10_termOf 11 = .ok (.invokestatic 39, 3) := by decide +kernel
theorem dX10_termOf_14 : decode cX10_termOf 14 = .ok (.ifCond .ne 6, 3) := by decide +kernel
theorem dX10_termOf_17 : decode cX10_termOf 17 = .ok (.ldc 50, 2) := by decide +kernel
theorem dX10_termOf_19 : decode cX10_termOf 19 = .ok (.ireturn, 1) := by decide +kernel
theorem dX10_termOf_20 : decode cX10_termOf 20 = .ok (.iload_n 2, 1) := by decide +kernel
theorem dX10_termOf_21 : decode cX10_termOf 21 = .ok (.tableswitch 90 0 6 #[43, 72, 78, 90, 90, 90, 84], 43) := by decide +kernel
theorem dX10_termOf_64 : decode cX10_termOf 64 = .ok (.aload_n 0, 1) := by decide +kernel
theorem dX10_termOf_65 : decode cX10_termOf 65 = .ok (.getfield 7, 3) := by decide +kernel
theorem dX10_termOf_68 : decode cX10_termOf 68 = .ok (.sipush 260, 3) := by decide +kernel
theorem dX10_termOf_71 : decode cX10_termOf 71 = .ok (.iload_n 1, 1) := by decide +kernel
theorem dX10_termOf_72 : decode cX10_termOf 72 = .ok (.iadd, 1) := by decide +kernel
theorem dX10_termOf_73 : decode cX10_termOf 73 = .ok (.iaload, 1) := by decide +kernel
theorem dX10_termOf_74 : decode cX10_termOf 74 = .ok (.ifCond .ge 8, 3) := by decide +kernel
theorem dX10_termOf_77 : decode cX10_termOf 77 = .ok (.ldc 110, 2) := by decide +kernel
theorem dX10_termOf_79 : decode cX10_termOf 79 = .ok (.goto 13, 3) := by decide +kernel
theorem dX10_termOf_82 : decode cX10_termOf 82 = .ok (.aload_n 0, 1) := by decide +kernel
theorem dX10_termOf_83 : decode cX10_termOf 83 = .ok (.getfield 7, 3) := by decide +kernel
theorem dX10_termOf_86 : decode cX10_termOf 86 = .ok (.sipush 260, 3) := by decide +kernel
theorem dX10_termOf_89 : decode cX10_termOf 89 = .ok (.iload_n 1, 1) := by decide +kernel
theorem dX10_termOf_90 : decode cX10_termOf 90 = .ok (.iadd, 1) := by decide +kernel
theorem dX10_termOf_91 : decode cX10_termOf 91 = .ok (.iaload, 1) := by decide +kernel
theorem dX10_termOf_92 : decode cX10_termOf 92 = .ok (.ireturn, 1) := by decide +kernel
theorem dX10_termOf_93 : decode cX10_termOf 93 = .ok (.aload_n 0, 1) := by decide +kernel
theorem dX10_termOf_94 : decode cX10_termOf 94 = .ok (.iload_n 1, 1) := by decide +kernel
theorem dX10_termOf_95 : decode cX10_termOf 95 = .ok (.invokevirtual 73, 3) := by decide +kernel
theorem dX10_termOf_98 : decode cX10_termOf 98 = .ok (.ireturn, 1) := by decide +kernel
theorem dX10_termOf_99 : decode cX10_termOf 99 = .ok (.aload_n 0, 1) := by decide +kernel
theorem dX10_termOf_100 : decode cX10_termOf 100 = .ok (.iload_n 1, 1) := by decide +kernel
theorem dX10_termOf_101 : decode cX10_termOf 101 = .ok (.invokevirtual 121, 3) := by decide +kernel
theorem dX10_termOf_104 : decode cX10_termOf 104 = .ok (.ireturn, 1) := by decide +kernel
theorem dX10_termOf_105 : decode cX10_termOf 105 = .ok (.aload_n 0, 1) := by decide +kernel
theorem dX10_termOf_106 : decode cX10_termOf 106 = .ok (.iload_n 1, 1) := by decide +kernel
theorem dX10_termOf_107 : decode cX10_termOf 107 = .ok (.invokevirtual 124, 3) := by decide +kernel
theorem dX10_termOf_110 : decode cX10_termOf 110 = .ok (.ireturn, 1) := by decide +kernel
theorem dX10_termOf_111 : decode cX10_termOf 111 = .ok (.aload_n 0, 1) := by decide +kernel
theorem dX10_termOf_112 : decode cX10_termOf 112 = .ok (.iload_n 1, 1) := by decide +kernel
theorem dX10_termOf_113 : decode cX10_termOf 113 = .ok (.iload_n 2, 1) := by decide +kernel
theorem dX10_termOf_114 : decode cX10_termOf 114 = .ok (.invokevirtual 127, 3) := by decide +kernel
theorem dX10_termOf_117 : decode cX10_termOf 117 = .ok (.ireturn, 1) := by decide +kernel
theorem dX10_secondsOf_0 : decode cX10_secondsOf 0 = .ok (.iconst 0, 1) := by decide +kernel
theorem dX10_secondsOf_1 : decode cX10_secondsOf 1 = .ok (.istore_n 2, 1) := by decide +kernel
theorem dX10_secondsOf_2 : decode cX10_secondsOf 2 = .ok (.iconst 0, 1) := by decide +kernel
theorem dX10_secondsOf_3 : decode cX10_secondsOf 3 = .ok (.istore_n 3, 1) := by decide +kernel
theorem dX10_secondsOf_4 : decode cX10_secondsOf 4 = .ok (.iload_n 3, 1) := by decide +kernel
theorem dX10_secondsOf_5 : decode cX10_secondsOf 5 = .ok (.aload_n 0, 1) := by decide +kernel
theorem dX10_secondsOf_6 : decode cX10_secondsOf 6 = .ok (.getfield 7, 3) := by decide +kernel
theorem dX10_secondsOf_9 : decode cX10_secondsOf 9 = .ok (.sipush 282, 3) := by decide +kernel
theorem dX10_secondsOf_12 : decode cX10_secondsOf 12 = .ok (.iaload, 1) := by decide +kernel
theorem dX10_secondsOf_13 : decode cX10_secondsOf 13 = .ok (.if_icmp .ge 39, 3) := by decide +kernel
theorem dX10_secondsOf_16 : decode cX10_secondsOf 16 = .ok (.iload_n 2, 1) := by decide +kernel
theorem dX10_secondsOf_17 : decode cX10_secondsOf 17 = .ok (.aload_n 0, 1) := by decide +kernel
theorem dX10_secondsOf_18 : decode cX10_secondsOf 18 = .ok (.iload_n 3, 1) := by decide +kernel
theorem dX10_secondsOf_19 : decode cX10_secondsOf 19 = .ok (.iconst 3, 1) := by decide +kernel
theorem dX10_secondsOf_20 : decode cX10_secondsOf 20 = .ok (.invokevirtual 47, 3) := by decide +kernel
theorem dX10_secondsOf_23 : decode cX10_secondsOf 23 = .ok (.iload_n 1, 1) := by decide +kernel
theorem dX10_secondsOf_24 : decode cX10_secondsOf 24 = .ok (.if_icmp .ne 19, 3) := by decide +kernel
theorem dX10_secondsOf_27 : decode cX10_secondsOf 27 = .ok (.aload_n 0, 1) := by decide +kernel
theorem dX10_secondsOf_28 : decode cX10_secondsOf 28 = .ok (.iload_n 3, 1) := by decide +kernel
theorem dX10_secondsOf_29 : decode cX10_secondsOf 29 = .ok (.iconst 1, 1) := by decide +kernel
theorem dX10_secondsOf_30 : decode cX10_secondsOf 30 = .ok (.invokevirtual 47, 3) := by decide +kernel
theorem dX10_secondsOf_33 : decode cX10_secondsOf 33 = .ok (.aload_n 0, 1) := by decide +kernel
theorem dX10_secondsOf_34 : decode cX10_secondsOf 34 = .ok (.iload_n 3, 1) := by decide +kernel
theorem dX10_secondsOf_35 : decode cX10_secondsOf 35 = .ok (.iconst 0, 1) := by decide +kernel
theorem dX10_secondsOf_36 : decode cX10_secondsOf 36 = .ok (.invokevirtual 47, 3) := by decide +kernel
theorem dX10_secondsOf_39 : decode cX10_secondsOf 39 = .ok (.isub, 1) := by decide +kernel
theorem dX10_secondsOf_40 : decode cX10_secondsOf 40 = .ok (.goto 4, 3) := by decide +kernel
theorem dX10_secondsOf_43 : decode cX10_secondsOf 43 = .ok (.iconst 0, 1) := by decide +kernel
theorem dX10_secondsOf_44 : decode cX10_secondsOf 44 = .ok (.iadd, 1) := by decide +kernel
theorem dX10_secondsOf_45 : decode cX10_secondsOf 45 = .ok (.istore_n 2, 1) := by decide +kernel
theorem dX10_secondsOf_46 : decode cX10_secondsOf 46 = .ok (.iinc 3 1, 3) := by decide +kernel
theorem dX10_secondsOf_49 : decode cX10_secondsOf 49 = .ok (.goto (-45), 3) := by decide +kernel
theorem dX10_secondsOf_52 : decode cX10_secondsOf 52 = .ok (.iload_n 2, 1) := by decide +kernel
theorem dX10_secondsOf_53 : decode cX10_secondsOf 53 = .ok (.ireturn, 1) := by decide +kernel
theorem dX10_termsOf_0 : decode cX10_termsOf 0 = .ok (.iconst 0, 1) := by decide +kernel
theorem dX10_termsOf_1 : decode cX10_termsOf 1 = .ok (.istore_n 3, 1) := by decide +kernel
theorem dX10_termsOf_2 : decode cX10_termsOf 2 = .ok (.iconst 0, 1) := by decide +kernel
theorem dX10_termsOf_3 : decode cX10_termsOf 3 = .ok (.istore 4, 2) := by decide +kernel
theorem dX10_termsOf_5 : decode cX10_termsOf 5 = .ok (.iload 4, 2) := by decide +kernel
theorem dX10_termsOf_7 : decode cX10_termsOf 7 = .ok (.aload_n 0, 1) := by decide +kernel
theorem dX10_termsOf_8 : decode cX10_termsOf 8 = .ok (.getfield 7, 3) := by decide +kernel
theorem dX10_termsOf_11 : decode cX10_termsOf 11 = .ok (.sipush 282, 3) := by decide +kernel
theorem dX10_termsOf_14 : decode cX10_termsOf 14 = .ok (.iaload, 1) := by decide +kernel
theorem dX10_termsOf_15 : decode cX10_termsOf 15 = .ok (.if_icmp .ge 82, 3) := by decide +kernel
theorem dX10_termsOf_18 : decode cX10_termsOf 18 = .ok (.aload_n 0, 1) := by decide +kernel
theorem dX10_termsOf_19 : decode cX10_termsOf 19 = .ok (.iload 4, 2) := by decide +kernel
theorem dX10_termsOf_21 : decode cX10_termsOf 21 = .ok (.iconst 3, 1) := by decide +kernel
theorem dX10_termsOf_22 : decode cX10_termsOf 22 = .ok (.invokevirtual 47, 3) := by decide +kernel
theorem dX10_termsOf_25 : decode cX10_termsOf 25 = .ok (.iload_n 1, 1) := by decide +kernel
theorem dX10_termsOf_26 : decode cX10_termsOf 26 = .ok (.if_icmp .ne 65, 3) := by decide +kernel
theorem dX10_termsOf_29 : decode cX10_termsOf 29 = .ok (.iload_n 3, 1) := by decide +kernel
theorem dX10_termsOf_30 : decode cX10_termsOf 30 = .ok (.iload_n 2, 1) := by decide +kernel
theorem dX10_termsOf_31 : decode cX10_termsOf 31 = .ok (.ifCond .eq 7, 3) := by decide +kernel
theorem dX10_termsOf_34 : decode cX10_termsOf 34 = .ok (.iconst 0, 1) := by decide +kernel
theorem dX10_termsOf_35 : decode cX10_termsOf 35 = .ok (.goto 10, 3) := by decide +kernel
theorem dX10_termsOf_38 : decode cX10_termsOf 38 = .ok (.aload_n 0, 1) := by decide +kernel
theorem dX10_termsOf_39 : decode cX10_termsOf 39 = .ok (.iload 4, 2) := by decide +kernel
theorem dX10_termsOf_41 : decode cX10_termsOf 41 = .ok (.iconst 4, 1) := by decide +kernel
theorem dX10_termsOf_42 : decode cX10_termsOf 42 = .ok (.invokevirtual 47, 3) := by decide +kernel
theorem dX10_termsOf_45 : decode cX10_termsOf 45 = .ok (.iadd, 1) := by decide +kernel
theorem dX10_termsOf_46 : decode cX10_termsOf 46 = .ok (.istore_n 3, 1) := by decide +kernel
theorem dX10_termsOf_47 : decode cX10_termsOf 47 = .ok (.iconst 0, 1) := by decide +kernel
theorem dX10_termsOf_48 : decode cX10_termsOf 48 = .ok (.istore 5, 2) := by decide +kernel
theorem dX10_termsOf_50 : decode cX10_termsOf 50 = .ok (.iload 5, 2) := by decide +kernel
theorem dX10_termsOf_52 : decode cX10_termsOf 52 = .ok (.aload_n 0, 1) := by decide +kernel
theorem dX10_termsOf_53 : decode cX10_termsOf 53 = .ok (.iload 4, 2) := by decide +kernel
theorem dX10_termsOf_55 : decode cX10_termsOf 55 = .ok (.iconst 4, 1) := by decide +kernel
theorem dX10_termsOf_56 : decode cX10_termsOf 56 = .ok (.invokevirtual 47, 3) := by decide +kernel
theorem dX10_termsOf_59 : decode cX10_termsOf 59 = .ok (.if_icmp .ge 32, 3) := by decide +kernel
theorem dX10_termsOf_62 : decode cX10_termsOf 62 = .ok (.iload_n 2, 1) := by decide +kernel
theorem dX10_termsOf_63 : decode cX10_termsOf 63 = .ok (.ifCond .eq 28, 3) := by decide +kernel
theorem dX10_termsOf_66 : decode cX10_termsOf 66 = .ok (.iload_n 3, 1) := by decide +kernel
theorem dX10_termsOf_67 : decode cX10_termsOf 67 = .ok (.iconst 1, 1) := by decide +kernel
theorem dX10_termsOf_68 : decode cX10_termsOf 68 = .ok (.aload_n 0, 1) := by decide +kernel
theorem dX10_termsOf_69 : decode cX10_termsOf 69 = .ok (.aload_n 0, 1) := by decide +kernel
theorem dX10_termsOf_70 : decode cX10_termsOf 70 = .ok (.iload 4, 2) := by decide +kernel
theorem dX10_termsOf_72 : decode cX10_termsOf 72 = .ok (.iconst 5, 1) := by decide +kernel
theorem dX10_termsOf_73 : decode cX10_termsOf 73 = .ok (.iload 5, 2) := by decide +kernel
theorem dX10_termsOf_75 : decode cX10_termsOf 75 = .ok (.iadd, 1) := by decide +kernel
theorem dX10_termsOf_76 : decode cX10_termsOf 76 = .ok (.invokevirtual 47, 3) := by decide +kernel
theorem dX10_termsOf_79 : decode cX10_termsOf 79 = .ok (.invokevirtual 73, 3) := by decide +kernel
theorem dX10_termsOf_82 : decode cX10_termsOf 82 = .ok (.ishl, 1) := by decide +kernel
theorem dX10_termsOf_83 : decode cX10_termsOf 83 = .ok (.ior, 1) := by decide +kernel
theorem dX10_termsOf_84 : decode cX10_termsOf 84 = .ok (.istore_n 3, 1) := by decide +kernel
theorem dX10_termsOf_85 : decode cX10_termsOf 85 = .ok (.iinc 5 1, 3) := by decide +kernel
theorem dX10_termsOf_88 : decode cX10_termsOf 88 = .ok (.goto (-38), 3) := by decide +kernel
theorem dX10_termsOf_91 : decode cX10_termsOf 91 = .ok (.iinc 4 1, 3) := by decide +kernel
theorem dX10_termsOf_94 : decode cX10_termsOf 94 = .ok (.goto (-89), 3) := by decide +kernel
theorem dX10_termsOf_97 : decode cX10_termsOf 97 = .ok (.iload_n 3, 1) := by decide +kernel
theorem dX10_termsOf_98 : decode cX10_termsOf 98 = .ok (.ireturn, 1) := by decide +kernel
theorem dX10_ones_0 : decode cX10_ones 0 = .ok (.iconst 0, 1) := by decide +kernel
theorem dX10_ones_1 : decode cX10_ones 1 = .ok (.istore_n 1, 1) := by decide +kernel
theorem dX10_ones_2 : decode cX10_ones 2 = .ok (.iload_n 0, 1) := by decide +kernel
theorem dX10_ones_3 : decode cX10_ones 3 = .ok (.istore_n 2, 1) := by decide +kernel
theorem dX10_ones_4 : decode cX10_ones 4 = .ok (.iload_n 2, 1) := by decide +kernel
theorem dX10_ones_5 : decode cX10_ones 5 = .ok (.ifCond .eq 15, 3) := by decide +kernel
theorem dX10_ones_8 : decode cX10_ones 8 = .ok (.iinc 1 1, 3) := by decide +kernel
theorem dX10_ones_11 : decode cX10_ones 11 = .ok (.iload_n 2, 1) := by decide +kernel
theorem dX10_ones_12 : decode cX10_ones 12 = .ok (.iload_n 2, 1) := by decide +kernel
theorem dX10_ones_13 : decode cX10_ones 13 = .ok (.iconst 1, 1) := by decide +kernel
theorem dX10_ones_14 : decode cX10_ones 14 = .ok (.isub, 1) := by decide +kernel
theorem dX10_ones_15 : decode cX10_ones 15 = .ok (.iand, 1) := by decide +kernel
theorem dX10_ones_16 : decode cX10_ones 16 = .ok (.istore_n 2, 1) := by decide +kernel
theorem dX10_ones_17 : decode cX10_ones 17 = .ok (.goto (-13), 3) := by decide +kernel
theorem dX10_ones_20 : decode cX10_ones 20 = .ok (.iload_n 1, 1) := by decide +kernel
theorem dX10_ones_21 : decode cX10_ones 21 = .ok (.ireturn, 1) := by decide +kernel
theorem dX10_often_0 : decode cX10_often 0 = .ok (.iconst 0, 1) := by decide +kernel
theorem dX10_often_1 : decode cX10_often 1 = .ok (.istore_n 3, 1) := by decide +kernel
theorem dX10_often_2 : decode cX10_often 2 = .ok (.iconst 0, 1) := by decide +kernel
theorem dX10_often_3 : decode cX10_often 3 = .ok (.istore 4, 2) := by decide +kernel
theorem dX10_often_5 : decode cX10_often 5 = .ok (.iload 4, 2) := by decide +kernel
theorem dX10_often_7 : decode cX10_often 7 = .ok (.aload_n 0, 1) := by decide +kernel
theorem dX10_often_8 : decode cX10_often 8 = .ok (.getfield 7, 3) := by decide +kernel
theorem dX10_often_11 : decode cX10_often 11 = .ok (.sipush 282, 3) := by decide +kernel
theorem dX10_often_14 : decode cX10_often 14 = .ok (.iaload, 1) := by decide +kernel
theorem dX10_often_15 : decode cX10_often 15 = .ok (.if_icmp .ge 92, 3) := by decide +kernel
theorem dX10_often_18 : decode cX10_often 18 = .ok (.iconst 0, 1) := by decide +kernel
theorem dX10_often_19 : decode cX10_often 19 = .ok (.istore 5, 2) := by decide +kernel
theorem dX10_often_21 : decode cX10_often 21 = .ok (.iload 5, 2) := by decide +kernel
theorem dX10_often_23 : decode cX10_often 23 = .ok (.aload_n 0, 1) := by decide +kernel
theorem dX10_often_24 : decode cX10_often 24 = .ok (.getfield 7, 3) := by decide +kernel
theorem dX10_often_27 : decode cX10_often 27 = .ok (.sipush 282, 3) := by decide +kernel
theorem dX10_often_30 : decode cX10_often 30 = .ok (.iaload, 1) := by decide +kernel
theorem dX10_often_31 : decode cX10_often 31 = .ok (.if_icmp .ge 70, 3) := by decide +kernel
theorem dX10_often_34 : decode cX10_often 34 = .ok (.iload_n 1, 1) := by decide +kernel
theorem dX10_often_35 : decode cX10_often 35 = .ok (.ifCond .lt 14, 3) := by decide +kernel
theorem dX10_often_38 : decode cX10_often 38 = .ok (.aload_n 0, 1) := by decide +kernel
theorem dX10_often_39 : decode cX10_often 39 = .ok (.iload 4, 2) := by decide +kernel
theorem dX10_often_41 : decode cX10_often 41 = .ok (.iconst 3, 1) := by decide +kernel
theorem dX10_often_42 : decode cX10_often 42 = .ok (.invokevirtual 47, 3) := by decide +kernel
theorem dX10_often_45 : decode cX10_often 45 = .ok (.iload_n 1, 1) := by decide +kernel
theorem dX10_often_46 : decode cX10_often 46 = .ok (.if_icmp .ne 22, 3) := by decide +kernel
theorem dX10_often_49 : decode cX10_often 49 = .ok (.iload_n 2, 1) := by decide +kernel
theorem dX10_often_50 : decode cX10_often 50 = .ok (.ifCond .lt 14, 3) := by decide +kernel
theorem dX10_often_53 : decode cX10_often 53 = .ok (.aload_n 0, 1) := by decide +kernel
theorem dX10_often_54 : decode cX10_often 54 = .ok (.iload 5, 2) := by decide +kernel
theorem dX10_often_56 : decode cX10_often 56 = .ok (.iconst 3, 1) := by decide +kernel
theorem dX10_often_57 : decode cX10_often 57 = .ok (.invokevirtual 47, 3) := by decide +kernel
theorem dX10_often_60 : decode cX10_often 60 = .ok (.iload_n 2, 1) := by decide +kernel
theorem dX10_often_61 : decode cX10_often 61 = .ok (.if_icmp .ne 7, 3) := by decide +kernel
theorem dX10_often_64 : decode cX10_often 64 = .ok (.iconst 1, 1) := by decide +kernel
theorem dX10_often_65 : decode cX10_often 65 = .ok (.goto 4, 3) := by decide +kernel
theorem dX10_often_68 : decode cX10_often 68 = .ok (.iconst 0, 1) := by decide +kernel
theorem dX10_often_69 : decode cX10_often 69 = .ok (.istore 6, 2) := by decide +kernel
theorem dX10_often_71 : decode cX10_often 71 = .ok (.iload_n 3, 1) := by decide +kernel
theorem dX10_often_72 : decode cX10_often 72 = .ok (.iload 6, 2) := by decide +kernel
theorem dX10_often_74 : decode cX10_often 74 = .ok (.ifCond .eq 18, 3) := by decide +kernel
theorem dX10_often_77 : decode cX10_often 77 = .ok (.aload_n 0, 1) := by decide +kernel
theorem dX10_often_78 : decode cX10_often 78 = .ok (.iload 4, 2) := by decide +kernel
theorem dX10_often_80 : decode cX10_often 80 = .ok (.iload 5, 2) := by decide +kernel
theorem dX10_often_82 : decode cX10_often 82 = .ok (.invokevirtual 98, 3) := by decide +kernel
theorem dX10_often_85 : decode cX10_often 85 = .ok (.ifCond .eq 7, 3) := by decide +kernel
theorem dX10_often_88 : decode cX10_often 88 = .ok (.iconst 1, 1) := by decide +kernel
theorem dX10_often_89 : decode cX10_often 89 = .ok (.goto 4, 3) := by decide +kernel
theorem dX10_often_92 : decode cX10_often 92 = .ok (.iconst 0, 1) := by decide +kernel
theorem dX10_often_93 : decode cX10_often 93 = .ok (.iadd, 1) := by decide +kernel
theorem dX10_often_94 : decode cX10_often 94 = .ok (.istore_n 3, 1) := by decide +kernel
theorem dX10_often_95 : decode cX10_often 95 = .ok (.iinc 5 1, 3) := by decide +kernel
theorem dX10_often_98 : decode cX10_often 98 = .ok (.goto (-77), 3) := by decide +kernel
theorem dX10_often_101 : decode cX10_often 101 = .ok (.iinc 4 1, 3) := by decide +kernel
theorem dX10_often_104 : decode cX10_often 104 = .ok (.goto (-99), 3) := by decide +kernel
theorem dX10_often_107 : decode cX10_often 107 = .ok (.iload_n 3, 1) := by decide +kernel
theorem dX10_often_108 : decode cX10_often 108 = .ok (.ireturn, 1) := by decide +kernel
theorem dX10_byMinute_0 : decode cX10_byMinute 0 = .ok (.aload_n 0, 1) := by decide +kernel
theorem dX10_byMinute_1 : decode cX10_byMinute 1 = .ok (.iload_n 1, 1) := by decide +kernel
theorem dX10_byMinute_2 : decode cX10_byMinute 2 = .ok (.invokevirtual 130, 3) := by decide +kernel
theorem dX10_byMinute_5 : decode cX10_byMinute 5 = .ok (.istore_n 2, 1) := by decide +kernel
theorem dX10_byMinute_6 : decode cX10_byMinute 6 = .ok (.aload_n 0, 1) := by decide +kernel
theorem dX10_byMinute_7 : decode cX10_byMinute 7 = .ok (.iload_n 1, 1) := by decide +kernel
theorem dX10_byMinute_8 : decode cX10_byMinute 8 = .ok (.iconst 0, 1) := by decide +kernel
theorem dX10_byMinute_9 : decode cX10_byMinute 9 = .ok (.invokevirtual 133, 3) := by decide +kernel
theorem dX10_byMinute_12 : decode cX10_byMinute 12 = .ok (.i2f, 1) := by decide +kernel
theorem dX10_byMinute_13 : decode cX10_byMinute 13 = .ok (.ldc 136, 2) := by decide +kernel
theorem dX10_byMinute_15 : decode cX10_byMinute 15 = .ok (.fmul, 1) := by decide +kernel
theorem dX10_byMinute_16 : decode cX10_byMinute 16 = .ok (.iload_n 2, 1) := by decide +kernel
theorem dX10_byMinute_17 : decode cX10_byMinute 17 = .ok (.ifCond .ne 7, 3) := by decide +kernel
theorem dX10_byMinute_20 : decode cX10_byMinute 20 = .ok (.iconst 1, 1) := by decide +kernel
theorem dX10_byMinute_21 : decode cX10_byMinute 21 = .ok (.goto 4, 3) := by decide +kernel
theorem dX10_byMinute_24 : decode cX10_byMinute 24 = .ok (.iload_n 2, 1) := by decide +kernel
theorem dX10_byMinute_25 : decode cX10_byMinute 25 = .ok (.i2f, 1) := by decide +kernel
theorem dX10_byMinute_26 : decode cX10_byMinute 26 = .ok (.fdiv, 1) := by decide +kernel
theorem dX10_byMinute_27 : decode cX10_byMinute 27 = .ok (.fstore_n 3, 1) := by decide +kernel
theorem dX10_byMinute_28 : decode cX10_byMinute 28 = .ok (.iload_n 2, 1) := by decide +kernel
theorem dX10_byMinute_29 : decode cX10_byMinute 29 = .ok (.ifCond .ne 8, 3) := by decide +kernel
theorem dX10_byMinute_32 : decode cX10_byMinute 32 = .ok (.ldc 110, 2) := by decide +kernel
theorem dX10_byMinute_34 : decode cX10_byMinute 34 = .ok (.goto 7, 3) := by decide +kernel
theorem dX10_byMinute_37 : decode cX10_byMinute 37 = .ok (.fload_n 3, 1) := by decide +kernel
theorem dX10_byMinute_38 : decode cX10_byMinute 38 = .ok (.invokestatic 137, 3) := by decide +kernel
theorem dX10_byMinute_41 : decode cX10_byMinute 41 = .ok (.ireturn, 1) := by decide +kernel
theorem dX10_speakerOf_0 : decode cX10_speakerOf 0 = .ok (.aload_n 0, 1) := by decide +kernel
theorem dX10_speakerOf_1 : decode cX10_speakerOf 1 = .ok (.iload_n 1, 1) := by decide +kernel
theorem dX10_speakerOf_2 : decode cX10_speakerOf 2 = .ok (.invokevirtual 91, 3) := by decide +kernel
theorem dX10_speakerOf_5 : decode cX10_speakerOf 5 = .ok (.ifCond .eq 13, 3) := by decide +kernel
theorem dX10_speakerOf_8 : decode cX10_speakerOf 8 = .ok (.iload_n 2, 1) := by decide +kernel
theorem dX10_speakerOf_9 : decode cX10_speakerOf 9 = .ok (.iconst 0, 1) := by decide +kernel
theorem dX10_speakerOf_10 : decode cX10_speakerOf 10 = .ok (.bipush 6, 2) := by decide +kernel
theorem dX10_speakerOf_12 : decode cX10_speakerOf 12 = .ok (.invokestatic 39, 3) := by decide +kernel
theorem dX10_speakerOf_15 : decode cX10_speakerOf 15 = .ok (.ifCond .ne 6, 3) := by decide +kernel
theorem dX10_speakerOf_18 : decode cX10_speakerOf 18 = .ok (.ldc 50, 2) := by decide +kernel
theorem dX10_speakerOf_20 : decode cX10_speakerOf 20 = .ok (.ireturn, 1) := by decide +kernel
theorem dX10_speakerOf_21 : decode cX10_speakerOf 21 = .ok (.iload_n 2, 1) := by decide +kernel
theorem dX10_speakerOf_22 : decode cX10_speakerOf 22 = .ok (.tableswitch 82 0 5 #[38, 49, 55, 61, 68, 75], 38) := by decide +kernel
theorem dX10_speakerOf_60 : decode cX10_speakerOf 60 = .ok (.aload_n 0, 1) := by decide +kernel
theorem dX10_speakerOf_61 : decode cX10_speakerOf 61 = .ok (.getfield 7, 3) := by decide +kernel
theorem dX10_speakerOf_64 : decode cX10_speakerOf 64 = .ok (.sipush 276, 3) := by decide +kernel
theorem dX10_speakerOf_67 : decode cX10_speakerOf 67 = .ok (.iload_n 1, 1) := by decide +kernel
theorem dX10_speakerOf_68 : decode cX10_speakerOf 68 = .ok (.iadd, 1) := by decide +kernel
theorem dX10_speakerOf_69 : decode cX10_speakerOf 69 = .ok (.iaload, 1) := by decide +kernel
theorem dX10_speakerOf_70 : decode cX10_speakerOf 70 = .ok (.ireturn, 1) := by decide +kernel
theorem dX10_speakerOf_71 : decode cX10_speakerOf 71 = .ok (.aload_n 0, 1) := by decide +kernel
theorem dX10_speakerOf_72 : decode cX10_speakerOf 72 = .ok (.iload_n 1, 1) := by decide +kernel
theorem dX10_speakerOf_73 : decode cX10_speakerOf 73 = .ok (.invokevirtual 88, 3) := by decide +kernel
theorem dX10_speakerOf_76 : decode cX10_speakerOf 76 = .ok (.ireturn, 1) := by decide +kernel
theorem dX10_speakerOf_77 : decode cX10_speakerOf 77 = .ok (.aload_n 0, 1) := by decide +kernel
theorem dX10_speakerOf_78 : decode cX10_speakerOf 78 = .ok (.iload_n 1, 1) := by decide +kernel
theorem dX10_speakerOf_79 : decode cX10_speakerOf 79 = .ok (.invokevirtual 130, 3) := by decide +kernel
theorem dX10_speakerOf_82 : decode cX10_speakerOf 82 = .ok (.ireturn, 1) := by decide +kernel
theorem dX10_speakerOf_83 : decode cX10_speakerOf 83 = .ok (.aload_n 0, 1) := by decide +kernel
theorem dX10_speakerOf_84 : decode cX10_speakerOf 84 = .ok (.iload_n 1, 1) := by decide +kernel
theorem dX10_speakerOf_85 : decode cX10_speakerOf 85 = .ok (.iconst 1, 1) := by decide +kernel
theorem dX10_speakerOf_86 : decode cX10_speakerOf 86 = .ok (.invokevirtual 133, 3) := by decide +kernel
theorem dX10_speakerOf_89 : decode cX10_speakerOf 89 = .ok (.ireturn, 1) := by decide +kernel
theorem dX10_speakerOf_90 : decode cX10_speakerOf 90 = .ok (.aload_n 0, 1) := by decide +kernel
theorem dX10_speakerOf_91 : decode cX10_speakerOf 91 = .ok (.iload_n 1, 1) := by decide +kernel
theorem dX10_speakerOf_92 : decode cX10_speakerOf 92 = .ok (.iconst (-1), 1) := by decide +kernel
theorem dX10_speakerOf_93 : decode cX10_speakerOf 93 = .ok (.invokevirtual 143, 3) := by decide +kernel
theorem dX10_speakerOf_96 : decode cX10_speakerOf 96 = .ok (.ireturn, 1) := by decide +kernel
theorem dX10_speakerOf_97 : decode cX10_speakerOf 97 = .ok (.aload_n 0, 1) := by decide +kernel
theorem dX10_speakerOf_98 : decode cX10_speakerOf 98 = .ok (.iconst (-1), 1) := by decide +kernel
theorem dX10_speakerOf_99 : decode cX10_speakerOf 99 = .ok (.iload_n 1, 1) := by decide +kernel
theorem dX10_speakerOf_100 : decode cX10_speakerOf 100 = .ok (.invokevirtual 143, 3) := by decide +kernel
theorem dX10_speakerOf_103 : decode cX10_speakerOf 103 = .ok (.ireturn, 1) := by decide +kernel
theorem dX10_speakerOf_104 : decode cX10_speakerOf 104 = .ok (.aload_n 0, 1) := by decide +kernel
theorem dX10_speakerOf_105 : decode cX10_speakerOf 105 = .ok (.iload_n 1, 1) := by decide +kernel
theorem dX10_speakerOf_106 : decode cX10_speakerOf 106 = .ok (.invokevirtual 146, 3) := by decide +kernel
theorem dX10_speakerOf_109 : decode cX10_speakerOf 109 = .ok (.ireturn, 1) := by decide +kernel
theorem dX10_voices_0 : decode cX10_voices 0 = .ok (.iconst 0, 1) := by decide +kernel
theorem dX10_voices_1 : decode cX10_voices 1 = .ok (.istore_n 2, 1) := by decide +kernel
theorem dX10_voices_2 : decode cX10_voices 2 = .ok (.iconst 0, 1) := by decide +kernel
theorem dX10_voices_3 : decode cX10_voices 3 = .ok (.istore_n 3, 1) := by decide +kernel
theorem dX10_voices_4 : decode cX10_voices 4 = .ok (.iload_n 3, 1) := by decide +kernel
theorem dX10_voices_5 : decode cX10_voices 5 = .ok (.aload_n 0, 1) := by decide +kernel
theorem dX10_voices_6 : decode cX10_voices 6 = .ok (.getfield 7, 3) := by decide +kernel
theorem dX10_voices_9 : decode cX10_voices 9 = .ok (.sipush 282, 3) := by decide +kernel
theorem dX10_voices_12 : decode cX10_voices 12 = .ok (.iaload, 1) := by decide +kernel
theorem dX10_voices_13 : decode cX10_voices 13 = .ok (.if_icmp .ge 42, 3) := by decide +kernel
theorem dX10_voices_16 : decode cX10_voices 16 = .ok (.iload_n 2, 1) := by decide +kernel
theorem dX10_voices_17 : decode cX10_voices 17 = .ok (.iload_n 1, 1) := by decide +kernel
theorem dX10_voices_18 : decode cX10_voices 18 = .ok (.iload_n 3, 1) := by decide +kernel
theorem dX10_voices_19 : decode cX10_voices 19 = .ok (.ishr, 1) := by decide +kernel
theorem dX10_voices_20 : decode cX10_voices 20 = .ok (.iconst 1, 1) := by decide +kernel
theorem dX10_voices_21 : decode cX10_voices 21 = .ok (.iand, 1) := by decide +kernel
theorem dX10_voices_22 : decode cX10_voices 22 = .ok (.iconst 1, 1) := by decide +kernel
theorem dX10_voices_23 : decode cX10_voices 23 = .ok (.if_icmp .ne 23, 3) := by decide +kernel
theorem dX10_voices_26 : decode cX10_voices 26 = .ok (.aload_n 0, 1) := by decide +kernel
theorem dX10_voices_27 : decode cX10_voices 27 = .ok (.iload_n 3, 1) := by decide +kernel
theorem dX10_voices_28 : decode cX10_voices 28 = .ok (.iconst 3, 1) := by decide +kernel
theorem dX10_voices_29 : decode cX10_voices 29 = .ok (.invokevirtual 47, 3) := by decide +kernel
theorem dX10_voices_32 : decode cX10_voices 32 = .ok (.ifCond .lt 14, 3) := by decide +kernel
theorem dX10_voices_35 : decode cX10_voices 35 = .ok (.iconst 1, 1) := by decide +kernel
theorem dX10_voices_36 : decode cX10_voices 36 = .ok (.aload_n 0, 1) := by decide +kernel
theorem dX10_voices_37 : decode cX10_voices 37 = .ok (.iload_n 3, 1) := by decide +kernel
theorem dX10_voices_38 : decode cX10_voices 38 = .ok (.iconst 3, 1) := by decide +kernel
theorem dX10_voices_39 : decode cX10_voices 39 = .ok (.invokevirtual 47, 3) := by decide +kernel
theorem dX10_voices_42 : decode cX10_voices 42 = .ok (.ishl, 1) := by decide +kernel
theorem dX10_voices_43 : decode cX10_voices 43 = .ok (.goto 4, 3) := by decide +kernel
theorem dX10_voices_46 : decode cX10_voices 46 = .ok (.iconst 0, 1) := by decide +kernel
theorem dX10_voices_47 : decode cX10_voices 47 = .ok (.ior, 1) := by decide +kernel
theorem dX10_voices_48 : decode cX10_voices 48 = .ok (.istore_n 2, 1) := by decide +kernel
theorem dX10_voices_49 : decode cX10_voices 49 = .ok (.iinc 3 1, 3) := by decide +kernel
theorem dX10_voices_52 : decode cX10_voices 52 = .ok (.goto (-48), 3) := by decide +kernel
theorem dX10_voices_55 : decode cX10_voices 55 = .ok (.iload_n 2, 1) := by decide +kernel
theorem dX10_voices_56 : decode cX10_voices 56 = .ok (.ireturn, 1) := by decide +kernel
theorem dX10_during_0 : decode cX10_during 0 = .ok (.iload_n 1, 1) := by decide +kernel
theorem dX10_during_1 : decode cX10_during 1 = .ok (.iconst 0, 1) := by decide +kernel
theorem dX10_during_2 : decode cX10_during 2 = .ok (.sipush 1999, 3) := by decide +kernel
theorem dX10_during_5 : decode cX10_during 5 = .ok (.invokestatic 39, 3) := by decide +kernel
theorem dX10_during_8 : decode cX10_during 8 = .ok (.ifCond .eq 12, 3) := by decide +kernel
theorem dX10_during_11 : decode cX10_during 11 = .ok (.iload_n 2, 1) := by decide +kernel
theorem dX10_during_12 : decode cX10_during 12 = .ok (.iconst 0, 1) := by decide +kernel
theorem dX10_during_13 : decode cX10_during 13 = .ok (.iconst 1, 1) := by decide +kernel
theorem dX10_during_14 : decode cX10_during 14 = .ok (.invokestatic 39, 3) := by decide +kernel
theorem dX10_during_17 : decode cX10_during 17 = .ok (.ifCond .ne 6, 3) := by decide +kernel
theorem dX10_during_20 : decode cX10_during 20 = .ok (.ldc 50, 2) := by decide +kernel
theorem dX10_during_22 : decode cX10_during 22 = .ok (.ireturn, 1) := by decide +kernel
theorem dX10_during_23 : decode cX10_during 23 = .ok (.iload_n 2, 1) := by decide +kernel
theorem dX10_during_24 : decode cX10_during 24 = .ok (.ifCond .ne 11, 3) := by decide +kernel
theorem dX10_during_27 : decode cX10_during 27 = .ok (.aload_n 0, 1) := by decide +kernel
theorem dX10_during_28 : decode cX10_during 28 = .ok (.iload_n 1, 1) := by decide +kernel
theorem dX10_during_29 : decode cX10_during 29 = .ok (.invokevirtual 107, 3) := by decide +kernel
theorem dX10_during_32 : decode cX10_during 32 = .ok (.goto 12, 3) := by decide +kernel
theorem dX10_during_35 : decode cX10_during 35 = .ok (.aload_n 0, 1) := by decide +kernel
theorem dX10_during_36 : decode cX10_during 36 = .ok (.aload_n 0, 1) := by decide +kernel
theorem dX10_during_37 : decode cX10_during 37 = .ok (.iload_n 1, 1) := by decide +kernel
theorem dX10_during_38 : decode cX10_during 38 = .ok (.invokevirtual 107, 3) := by decide +kernel
theorem dX10_during_41 : decode cX10_during 41 = .ok (.invokevirtual 149, 3) := by decide +kernel
theorem dX10_during_44 : decode cX10_during 44 = .ok (.ireturn, 1) := by decide +kernel
theorem dX10_interrupts_0 : decode cX10_interrupts 0 = .ok (.aload_n 0, 1) := by decide +kernel
theorem dX10_interrupts_1 : decode cX10_interrupts 1 = .ok (.iload_n 1, 1) := by decide +kernel
theorem dX10_interrupts_2 : decode cX10_interrupts 2 = .ok (.invokevirtual 91, 3) := by decide +kernel
theorem dX10_interrupts_5 : decode cX10_interrupts 5 = .ok (.ifCond .eq 25, 3) := by decide +kernel
theorem dX10_interrupts_8 : decode cX10_interrupts 8 = .ok (.aload_n 0, 1) := by decide +kernel
theorem dX10_interrupts_9 : decode cX10_interrupts 9 = .ok (.iload_n 2, 1) := by decide +kernel
theorem dX10_interrupts_10 : decode cX10_interrupts 10 = .ok (.invokevirtual 91, 3) := by decide +kernel
theorem dX10_interrupts_13 : decode cX10_interrupts 13 = .ok (.ifCond .eq 17, 3) := by decide +kernel
theorem dX10_interrupts_16 : decode cX10_interrupts 16 = .ok (.iload_n 1, 1) := by decide +kernel
theorem dX10_interrupts_17 : decode cX10_interrupts 17 = .ok (.iload_n 2, 1) := by decide +kernel
theorem dX10_interrupts_18 : decode cX10_interrupts 18 = .ok (.if_icmp .eq 12, 3) := by decide +kernel
theorem dX10_interrupts_21 : decode cX10_interrupts 21 = .ok (.aload_n 0, 1) := by decide +kernel
theorem dX10_interrupts_22 : decode cX10_interrupts 22 = .ok (.iload_n 1, 1) := by decide +kernel
theorem dX10_interrupts_23 : decode cX10_interrupts 23 = .ok (.iload_n 2, 1) := by decide +kernel
theorem dX10_interrupts_24 : decode cX10_interrupts 24 = .ok (.invokevirtual 143, 3) := by decide +kernel
theorem dX10_interrupts_27 : decode cX10_interrupts 27 = .ok (.goto 5, 3) := by decide +kernel
theorem dX10_interrupts_30 : decode cX10_interrupts 30 = .ok (.ldc 50, 2) := by decide +kernel
theorem dX10_interrupts_32 : decode cX10_interrupts 32 = .ok (.ireturn, 1) := by decide +kernel
theorem dX10_nearest_0 : decode cX10_nearest 0 = .ok (.iload_n 1, 1) := by decide +kernel
theorem dX10_nearest_1 : decode cX10_nearest 1 = .ok (.bipush 50, 2) := by decide +kernel
theorem dX10_nearest_3 : decode cX10_nearest 3 = .ok (.sipush 500, 3) := by decide +kernel
theorem dX10_nearest_6 : decode cX10_nearest 6 = .ok (.invokestatic 39, 3) := by decide +kernel
theorem dX10_nearest_9 : decode cX10_nearest 9 = .ok (.ifCond .ne 6, 3) := by decide +kernel
theorem dX10_nearest_12 : decode cX10_nearest 12 = .ok (.ldc 50, 2) := by decide +kernel
theorem dX10_nearest_14 : decode cX10_nearest 14 = .ok (.ireturn, 1) := by decide +kernel
theorem dX10_nearest_15 : decode cX10_nearest 15 = .ok (.aload_n 0, 1) := by decide +kernel
theorem dX10_nearest_16 : decode cX10_nearest 16 = .ok (.iload_n 1, 1) := by decide +kernel
theorem dX10_nearest_17 : decode cX10_nearest 17 = .ok (.invokevirtual 63, 3) := by decide +kernel
theorem dX10_nearest_20 : decode cX10_nearest 20 = .ok (.ifCond .ge 8, 3) := by decide +kernel
theorem dX10_nearest_23 : decode cX10_nearest 23 = .ok (.ldc 110, 2) := by decide +kernel
theorem dX10_nearest_25 : decode cX10_nearest 25 = .ok (.goto 8, 3) := by decide +kernel
theorem dX10_nearest_28 : decode cX10_nearest 28 = .ok (.aload_n 0, 1) := by decide +kernel
theorem dX10_nearest_29 : decode cX10_nearest 29 = .ok (.iload_n 1, 1) := by decide +kernel
theorem dX10_nearest_30 : decode cX10_nearest 30 = .ok (.invokevirtual 63, 3) := by decide +kernel
theorem dX10_nearest_33 : decode cX10_nearest 33 = .ok (.ireturn, 1) := by decide +kernel
theorem dX10_would_0 : decode cX10_would 0 = .ok (.aload_n 0, 1) := by decide +kernel
theorem dX10_would_1 : decode cX10_would 1 = .ok (.iload_n 1, 1) := by decide +kernel
theorem dX10_would_2 : decode cX10_would 2 = .ok (.iload_n 2, 1) := by decide +kernel
theorem dX10_would_3 : decode cX10_would 3 = .ok (.invokevirtual 81, 3) := by decide +kernel
theorem dX10_would_6 : decode cX10_would 6 = .ok (.istore_n 3, 1) := by decide +kernel
theorem dX10_would_7 : decode cX10_would 7 = .ok (.iload_n 3, 1) := by decide +kernel
theorem dX10_would_8 : decode cX10_would 8 = .ok (.ifCond .ge 7, 3) := by decide +kernel
theorem dX10_would_11 : decode cX10_would 11 = .ok (.iload_n 3, 1) := by decide +kernel
theorem dX10_would_12 : decode cX10_would 12 = .ok (.goto 10, 3) := by decide +kernel
theorem dX10_would_15 : decode cX10_would 15 = .ok (.aload_n 0, 1) := by decide +kernel
theorem dX10_would_16 : decode cX10_would 16 = .ok (.iload_n 1, 1) := by decide +kernel
theorem dX10_would_17 : decode cX10_would 17 = .ok (.iload_n 2, 1) := by decide +kernel
theorem dX10_would_18 : decode cX10_would 18 = .ok (.iconst 0, 1) := by decide +kernel
theorem dX10_would_19 : decode cX10_would 19 = .ok (.invokevirtual 84, 3) := by decide +kernel
theorem dX10_would_22 : decode cX10_would 22 = .ok (.ireturn, 1) := by decide +kernel
theorem dX10_both_0 : decode cX10_both 0 = .ok (.iconst 0, 1) := by decide +kernel
theorem dX10_both_1 : decode cX10_both 1 = .ok (.istore_n 3, 1) := by decide +kernel
theorem dX10_both_2 : decode cX10_both 2 = .ok (.iconst 0, 1) := by decide +kernel
theorem dX10_both_3 : decode cX10_both 3 = .ok (.istore 4, 2) := by decide +kernel
theorem dX10_both_5 : decode cX10_both 5 = .ok (.iload 4, 2) := by decide +kernel
theorem dX10_both_7 : decode cX10_both 7 = .ok (.aload_n 0, 1) := by decide +kernel
theorem dX10_both_8 : decode cX10_both 8 = .ok (.getfield 7, 3) := by decide +kernel
theorem dX10_both_11 : decode cX10_both 11 = .ok (.sipush 282, 3) := by decide +kernel
theorem dX10_both_14 : decode cX10_both 14 = .ok (.iaload, 1) := by decide +kernel
theorem dX10_both_15 : decode cX10_both 15 = .ok (.if_icmp .ge 37, 3) := by decide +kernel
theorem dX10_both_18 : decode cX10_both 18 = .ok (.iload_n 3, 1) := by decide +kernel
theorem dX10_both_19 : decode cX10_both 19 = .ok (.aload_n 0, 1) := by decide +kernel
theorem dX10_both_20 : decode cX10_both 20 = .ok (.iload 4, 2) := by decide +kernel
theorem dX10_both_22 : decode cX10_both 22 = .ok (.iload_n 1, 1) := by decide +kernel
theorem dX10_both_23 : decode cX10_both 23 = .ok (.invokevirtual 118, 3) := by decide +kernel
theorem dX10_both_26 : decode cX10_both 26 = .ok (.ifCond .le 17, 3) := by decide +kernel
theorem dX10_both_29 : decode cX10_both 29 = .ok (.aload_n 0, 1) := by decide +kernel
theorem dX10_both_30 : decode cX10_both 30 = .ok (.iload 4, 2) := by decide +kernel
theorem dX10_both_32 : decode cX10_both 32 = .ok (.iload_n 2, 1) := by decide +kernel
theorem dX10_both_33 : decode cX10_both 33 = .ok (.invokevirtual 118, 3) := by decide +kernel
theorem dX10_both_36 : decode cX10_both 36 = .ok (.ifCond .le 7, 3) := by decide +kernel
theorem dX10_both_39 : decode cX10_both 39 = .ok (.iconst 1, 1) := by decide +kernel
theorem dX10_both_40 : decode cX10_both 40 = .ok (.goto 4, 3) := by decide +kernel
theorem dX10_both_43 : decode cX10_both 43 = .ok (.iconst 0, 1) := by decide +kernel
theorem dX10_both_44 : decode cX10_both 44 = .ok (.iadd, 1) := by decide +kernel
theorem dX10_both_45 : decode cX10_both 45 = .ok (.istore_n 3, 1) := by decide +kernel
end
section
theorem dX10_both_46 : decode cX10_both 46 = .ok (.iinc 4 1, 3) := by decide +kernel
theorem dX10_both_49 : decode cX10_both 49 = .ok (.goto (-44), 3) := by decide +kernel
theorem dX10_both_52 : decode cX10_both 52 = .ok (.iload_n 3, 1) := by decide +kernel
theorem dX10_both_53 : decode cX10_both 53 = .ok (.ireturn, 1) := by decide +kernel
theorem dX10_together_0 : decode cX10_together 0 = .ok (.iload_n 1, 1) := by decide +kernel
theorem dX10_together_1 : decode cX10_together 1 = .ok (.iconst 0, 1) := by decide +kernel
theorem dX10_together_2 : decode cX10_together 2 = .ok (.iconst 2, 1) := by decide +kernel
theorem dX10_together_3 : decode cX10_together 3 = .ok (.invokestatic 39, 3) := by decide +kernel
theorem dX10_together_6 : decode cX10_together 6 = .ok (.ifCond .ne 6, 3) := by decide +kernel
theorem dX10_together_9 : decode cX10_together 9 = .ok (.ldc 50, 2) := by decide +kernel
theorem dX10_together_11 : decode cX10_together 11 = .ok (.ireturn, 1) := by decide +kernel
theorem dX10_together_12 : decode cX10_together 12 = .ok (.iconst 0, 1) := by decide +kernel
theorem dX10_together_13 : decode cX10_together 13 = .ok (.istore_n 2, 1) := by decide +kernel
theorem dX10_together_14 : decode cX10_together 14 = .ok (.iconst 0, 1) := by decide +kernel
theorem dX10_together_15 : decode cX10_together 15 = .ok (.istore_n 3, 1) := by decide +kernel
theorem dX10_together_16 : decode cX10_together 16 = .ok (.iconst 0, 1) := by decide +kernel
theorem dX10_together_17 : decode cX10_together 17 = .ok (.istore 4, 2) := by decide +kernel
theorem dX10_together_19 : decode cX10_together 19 = .ok (.iconst 0, 1) := by decide +kernel
theorem dX10_together_20 : decode cX10_together 20 = .ok (.istore 5, 2) := by decide +kernel
theorem dX10_together_22 : decode cX10_together 22 = .ok (.iload 5, 2) := by decide +kernel
theorem dX10_together_24 : decode cX10_together 24 = .ok (.bipush 16, 2) := by decide +kernel
theorem dX10_together_26 : decode cX10_together 26 = .ok (.if_icmp .ge 82, 3) := by decide +kernel
theorem dX10_together_29 : decode cX10_together 29 = .ok (.iload 5, 2) := by decide +kernel
theorem dX10_together_31 : decode cX10_together 31 = .ok (.iconst 1, 1) := by decide +kernel
theorem dX10_together_32 : decode cX10_together 32 = .ok (.iadd, 1) := by decide +kernel
theorem dX10_together_33 : decode cX10_together 33 = .ok (.istore 6, 2) := by decide +kernel
theorem dX10_together_35 : decode cX10_together 35 = .ok (.iload 6, 2) := by decide +kernel
theorem dX10_together_37 : decode cX10_together 37 = .ok (.bipush 16, 2) := by decide +kernel
theorem dX10_together_39 : decode cX10_together 39 = .ok (.if_icmp .ge 63, 3) := by decide +kernel
theorem dX10_together_42 : decode cX10_together 42 = .ok (.aload_n 0, 1) := by decide +kernel
theorem dX10_together_43 : decode cX10_together 43 = .ok (.iload 5, 2) := by decide +kernel
theorem dX10_together_45 : decode cX10_together 45 = .ok (.iload 6, 2) := by decide +kernel
theorem dX10_together_47 : decode cX10_together 47 = .ok (.invokevirtual 152, 3) := by decide +kernel
theorem dX10_together_50 : decode cX10_together 50 = .ok (.istore 7, 2) := by decide +kernel
theorem dX10_together_52 : decode cX10_together 52 = .ok (.iload 7, 2) := by decide +kernel
theorem dX10_together_54 : decode cX10_together 54 = .ok (.iload 4, 2) := by decide +kernel
theorem dX10_together_56 : decode cX10_together 56 = .ok (.if_icmp .le 8, 3) := by decide +kernel
theorem dX10_together_59 : decode cX10_together 59 = .ok (.iload 5, 2) := by decide +kernel
theorem dX10_together_61 : decode cX10_together 61 = .ok (.goto 4, 3) := by decide +kernel
theorem dX10_together_64 : decode cX10_together 64 = .ok (.iload_n 2, 1) := by decide +kernel
theorem dX10_together_65 : decode cX10_together 65 = .ok (.istore_n 2, 1) := by decide +kernel
theorem dX10_together_66 : decode cX10_together 66 = .ok (.iload 7, 2) := by decide +kernel
theorem dX10_together_68 : decode cX10_together 68 = .ok (.iload 4, 2) := by decide +kernel
theorem dX10_together_70 : decode cX10_together 70 = .ok (.if_icmp .le 8, 3) := by decide +kernel
theorem dX10_together_73 : decode cX10_together 73 = .ok (.iload 6, 2) := by decide +kernel
theorem dX10_together_75 : decode cX10_together 75 = .ok (.goto 4, 3) := by decide +kernel
theorem dX10_together_78 : decode cX10_together 78 = .ok (.iload_n 3, 1) := by decide +kernel
theorem dX10_together_79 : decode cX10_together 79 = .ok (.istore_n 3, 1) := by decide +kernel
theorem dX10_together_80 : decode cX10_together 80 = .ok (.iload 7, 2) := by decide +kernel
theorem dX10_together_82 : decode cX10_together 82 = .ok (.iload 4, 2) := by decide +kernel
theorem dX10_together_84 : decode cX10_together 84 = .ok (.if_icmp .le 8, 3) := by decide +kernel
theorem dX10_together_87 : decode cX10_together 87 = .ok (.iload 7, 2) := by decide +kernel
theorem dX10_together_89 : decode cX10_together 89 = .ok (.goto 5, 3) := by decide +kernel
theorem dX10_together_92 : decode cX10_together 92 = .ok (.iload 4, 2) := by decide +kernel
theorem dX10_together_94 : decode cX10_together 94 = .ok (.istore 4, 2) := by decide +kernel
theorem dX10_together_96 : decode cX10_together 96 = .ok (.iinc 6 1, 3) := by decide +kernel
theorem dX10_together_99 : decode cX10_together 99 = .ok (.goto (-64), 3) := by decide +kernel
theorem dX10_together_102 : decode cX10_together 102 = .ok (.iinc 5 1, 3) := by decide +kernel
theorem dX10_together_105 : decode cX10_together 105 = .ok (.goto (-83), 3) := by decide +kernel
theorem dX10_together_108 : decode cX10_together 108 = .ok (.iload 4, 2) := by decide +kernel
theorem dX10_together_110 : decode cX10_together 110 = .ok (.ifCond .ne 8, 3) := by decide +kernel
theorem dX10_together_113 : decode cX10_together 113 = .ok (.ldc 110, 2) := by decide +kernel
theorem dX10_together_115 : decode cX10_together 115 = .ok (.goto 22, 3) := by decide +kernel
theorem dX10_together_118 : decode cX10_together 118 = .ok (.iload_n 1, 1) := by decide +kernel
theorem dX10_together_119 : decode cX10_together 119 = .ok (.ifCond .ne 7, 3) := by decide +kernel
theorem dX10_together_122 : decode cX10_together 122 = .ok (.iload_n 2, 1) := by decide +kernel
theorem dX10_together_123 : decode cX10_together 123 = .ok (.goto 14, 3) := by decide +kernel
theorem dX10_together_126 : decode cX10_together 126 = .ok (.iload_n 1, 1) := by decide +kernel
theorem dX10_together_127 : decode cX10_together 127 = .ok (.iconst 1, 1) := by decide +kernel
theorem dX10_together_128 : decode cX10_together 128 = .ok (.if_icmp .ne 7, 3) := by decide +kernel
theorem dX10_together_131 : decode cX10_together 131 = .ok (.iload_n 3, 1) := by decide +kernel
theorem dX10_together_132 : decode cX10_together 132 = .ok (.goto 5, 3) := by decide +kernel
theorem dX10_together_135 : decode cX10_together 135 = .ok (.iload 4, 2) := by decide +kernel
theorem dX10_together_137 : decode cX10_together 137 = .ok (.ireturn, 1) := by decide +kernel
theorem dX10_lastEnd_0 : decode cX10_lastEnd 0 = .ok (.iconst 0, 1) := by decide +kernel
theorem dX10_lastEnd_1 : decode cX10_lastEnd 1 = .ok (.istore_n 1, 1) := by decide +kernel
theorem dX10_lastEnd_2 : decode cX10_lastEnd 2 = .ok (.iconst 0, 1) := by decide +kernel
theorem dX10_lastEnd_3 : decode cX10_lastEnd 3 = .ok (.istore_n 2, 1) := by decide +kernel
theorem dX10_lastEnd_4 : decode cX10_lastEnd 4 = .ok (.iload_n 2, 1) := by decide +kernel
theorem dX10_lastEnd_5 : decode cX10_lastEnd 5 = .ok (.aload_n 0, 1) := by decide +kernel
theorem dX10_lastEnd_6 : decode cX10_lastEnd 6 = .ok (.getfield 7, 3) := by decide +kernel
theorem dX10_lastEnd_9 : decode cX10_lastEnd 9 = .ok (.sipush 282, 3) := by decide +kernel
theorem dX10_lastEnd_12 : decode cX10_lastEnd 12 = .ok (.iaload, 1) := by decide +kernel
theorem dX10_lastEnd_13 : decode cX10_lastEnd 13 = .ok (.if_icmp .ge 30, 3) := by decide +kernel
theorem dX10_lastEnd_16 : decode cX10_lastEnd 16 = .ok (.aload_n 0, 1) := by decide +kernel
theorem dX10_lastEnd_17 : decode cX10_lastEnd 17 = .ok (.iload_n 2, 1) := by decide +kernel
theorem dX10_lastEnd_18 : decode cX10_lastEnd 18 = .ok (.iconst 1, 1) := by decide +kernel
theorem dX10_lastEnd_19 : decode cX10_lastEnd 19 = .ok (.invokevirtual 47, 3) := by decide +kernel
theorem dX10_lastEnd_22 : decode cX10_lastEnd 22 = .ok (.iload_n 1, 1) := by decide +kernel
theorem dX10_lastEnd_23 : decode cX10_lastEnd 23 = .ok (.if_icmp .le 12, 3) := by decide +kernel
theorem dX10_lastEnd_26 : decode cX10_lastEnd 26 = .ok (.aload_n 0, 1) := by decide +kernel
theorem dX10_lastEnd_27 : decode cX10_lastEnd 27 = .ok (.iload_n 2, 1) := by decide +kernel
theorem dX10_lastEnd_28 : decode cX10_lastEnd 28 = .ok (.iconst 1, 1) := by decide +kernel
theorem dX10_lastEnd_29 : decode cX10_lastEnd 29 = .ok (.invokevirtual 47, 3) := by decide +kernel
theorem dX10_lastEnd_32 : decode cX10_lastEnd 32 = .ok (.goto 4, 3) := by decide +kernel
theorem dX10_lastEnd_35 : decode cX10_lastEnd 35 = .ok (.iload_n 1, 1) := by decide +kernel
theorem dX10_lastEnd_36 : decode cX10_lastEnd 36 = .ok (.istore_n 1, 1) := by decide +kernel
theorem dX10_lastEnd_37 : decode cX10_lastEnd 37 = .ok (.iinc 2 1, 3) := by decide +kernel
theorem dX10_lastEnd_40 : decode cX10_lastEnd 40 = .ok (.goto (-36), 3) := by decide +kernel
theorem dX10_lastEnd_43 : decode cX10_lastEnd 43 = .ok (.iload_n 1, 1) := by decide +kernel
theorem dX10_lastEnd_44 : decode cX10_lastEnd 44 = .ok (.ireturn, 1) := by decide +kernel
theorem dX10_silence_0 : decode cX10_silence 0 = .ok (.iload_n 1, 1) := by decide +kernel
theorem dX10_silence_1 : decode cX10_silence 1 = .ok (.iconst 0, 1) := by decide +kernel
theorem dX10_silence_2 : decode cX10_silence 2 = .ok (.iconst 1, 1) := by decide +kernel
theorem dX10_silence_3 : decode cX10_silence 3 = .ok (.invokestatic 39, 3) := by decide +kernel
theorem dX10_silence_6 : decode cX10_silence 6 = .ok (.ifCond .ne 6, 3) := by decide +kernel
theorem dX10_silence_9 : decode cX10_silence 9 = .ok (.ldc 50, 2) := by decide +kernel
theorem dX10_silence_11 : decode cX10_silence 11 = .ok (.ireturn, 1) := by decide +kernel
theorem dX10_silence_12 : decode cX10_silence 12 = .ok (.iconst 0, 1) := by decide +kernel
theorem dX10_silence_13 : decode cX10_silence 13 = .ok (.istore_n 2, 1) := by decide +kernel
theorem dX10_silence_14 : decode cX10_silence 14 = .ok (.iconst 0, 1) := by decide +kernel
theorem dX10_silence_15 : decode cX10_silence 15 = .ok (.istore_n 3, 1) := by decide +kernel
theorem dX10_silence_16 : decode cX10_silence 16 = .ok (.iconst 0, 1) := by decide +kernel
theorem dX10_silence_17 : decode cX10_silence 17 = .ok (.istore 4, 2) := by decide +kernel
theorem dX10_silence_19 : decode cX10_silence 19 = .ok (.aload_n 0, 1) := by decide +kernel
theorem dX10_silence_20 : decode cX10_silence 20 = .ok (.invokevirtual 155, 3) := by decide +kernel
theorem dX10_silence_23 : decode cX10_silence 23 = .ok (.istore 5, 2) := by decide +kernel
theorem dX10_silence_25 : decode cX10_silence 25 = .ok (.aload_n 0, 1) := by decide +kernel
theorem dX10_silence_26 : decode cX10_silence 26 = .ok (.iconst 0, 1) := by decide +kernel
theorem dX10_silence_27 : decode cX10_silence 27 = .ok (.iconst 0, 1) := by decide +kernel
theorem dX10_silence_28 : decode cX10_silence 28 = .ok (.invokevirtual 47, 3) := by decide +kernel
theorem dX10_silence_31 : decode cX10_silence 31 = .ok (.istore 6, 2) := by decide +kernel
theorem dX10_silence_33 : decode cX10_silence 33 = .ok (.iload 6, 2) := by decide +kernel
theorem dX10_silence_35 : decode cX10_silence 35 = .ok (.iload 5, 2) := by decide +kernel
theorem dX10_silence_37 : decode cX10_silence 37 = .ok (.if_icmp .ge 70, 3) := by decide +kernel
theorem dX10_silence_40 : decode cX10_silence 40 = .ok (.aload_n 0, 1) := by decide +kernel
theorem dX10_silence_41 : decode cX10_silence 41 = .ok (.getfield 7, 3) := by decide +kernel
theorem dX10_silence_44 : decode cX10_silence 44 = .ok (.sipush 282, 3) := by decide +kernel
theorem dX10_silence_47 : decode cX10_silence 47 = .ok (.iaload, 1) := by decide +kernel
theorem dX10_silence_48 : decode cX10_silence 48 = .ok (.ifCond .le 59, 3) := by decide +kernel
theorem dX10_silence_51 : decode cX10_silence 51 = .ok (.aload_n 0, 1) := by decide +kernel
theorem dX10_silence_52 : decode cX10_silence 52 = .ok (.iload 6, 2) := by decide +kernel
theorem dX10_silence_54 : decode cX10_silence 54 = .ok (.invokevirtual 107, 3) := by decide +kernel
theorem dX10_silence_57 : decode cX10_silence 57 = .ok (.ifCond .ne 10, 3) := by decide +kernel
theorem dX10_silence_60 : decode cX10_silence 60 = .ok (.iload 4, 2) := by decide +kernel
theorem dX10_silence_62 : decode cX10_silence 62 = .ok (.iconst 1, 1) := by decide +kernel
theorem dX10_silence_63 : decode cX10_silence 63 = .ok (.iadd, 1) := by decide +kernel
theorem dX10_silence_64 : decode cX10_silence 64 = .ok (.goto 4, 3) := by decide +kernel
theorem dX10_silence_67 : decode cX10_silence 67 = .ok (.iconst 0, 1) := by decide +kernel
theorem dX10_silence_68 : decode cX10_silence 68 = .ok (.istore 4, 2) := by decide +kernel
theorem dX10_silence_70 : decode cX10_silence 70 = .ok (.iload 4, 2) := by decide +kernel
theorem dX10_silence_72 : decode cX10_silence 72 = .ok (.iload_n 3, 1) := by decide +kernel
theorem dX10_silence_73 : decode cX10_silence 73 = .ok (.if_icmp .le 13, 3) := by decide +kernel
theorem dX10_silence_76 : decode cX10_silence 76 = .ok (.iload 6, 2) := by decide +kernel
theorem dX10_silence_78 : decode cX10_silence 78 = .ok (.iload 4, 2) := by decide +kernel
theorem dX10_silence_80 : decode cX10_silence 80 = .ok (.isub, 1) := by decide +kernel
theorem dX10_silence_81 : decode cX10_silence 81 = .ok (.iconst 1, 1) := by decide +kernel
theorem dX10_silence_82 : decode cX10_silence 82 = .ok (.iadd, 1) := by decide +kernel
theorem dX10_silence_83 : decode cX10_silence 83 = .ok (.goto 4, 3) := by decide +kernel
theorem dX10_silence_86 : decode cX10_silence 86 = .ok (.iload_n 2, 1) := by decide +kernel
theorem dX10_silence_87 : decode cX10_silence 87 = .ok (.istore_n 2, 1) := by decide +kernel
theorem dX10_silence_88 : decode cX10_silence 88 = .ok (.iload 4, 2) := by decide +kernel
theorem dX10_silence_90 : decode cX10_silence 90 = .ok (.iload_n 3, 1) := by decide +kernel
theorem dX10_silence_91 : decode cX10_silence 91 = .ok (.if_icmp .le 8, 3) := by decide +kernel
theorem dX10_silence_94 : decode cX10_silence 94 = .ok (.iload 4, 2) := by decide +kernel
theorem dX10_silence_96 : decode cX10_silence 96 = .ok (.goto 4, 3) := by decide +kernel
theorem dX10_silence_99 : decode cX10_silence 99 = .ok (.iload_n 3, 1) := by decide +kernel
theorem dX10_silence_100 : decode cX10_silence 100 = .ok (.istore_n 3, 1) := by decide +kernel
theorem dX10_silence_101 : decode cX10_silence 101 = .ok (.iinc 6 1, 3) := by decide +kernel
theorem dX10_silence_104 : decode cX10_silence 104 = .ok (.goto (-71), 3) := by decide +kernel
theorem dX10_silence_107 : decode cX10_silence 107 = .ok (.iload_n 3, 1) := by decide +kernel
theorem dX10_silence_108 : decode cX10_silence 108 = .ok (.ifCond .ne 8, 3) := by decide +kernel
theorem dX10_silence_111 : decode cX10_silence 111 = .ok (.ldc 110, 2) := by decide +kernel
theorem dX10_silence_113 : decode cX10_silence 113 = .ok (.goto 12, 3) := by decide +kernel
theorem dX10_silence_116 : decode cX10_silence 116 = .ok (.iload_n 1, 1) := by decide +kernel
theorem dX10_silence_117 : decode cX10_silence 117 = .ok (.ifCond .ne 7, 3) := by decide +kernel
theorem dX10_silence_120 : decode cX10_silence 120 = .ok (.iload_n 2, 1) := by decide +kernel
theorem dX10_silence_121 : decode cX10_silence 121 = .ok (.goto 4, 3) := by decide +kernel
theorem dX10_silence_124 : decode cX10_silence 124 = .ok (.iload_n 3, 1) := by decide +kernel
theorem dX10_silence_125 : decode cX10_silence 125 = .ok (.ireturn, 1) := by decide +kernel
theorem dX10_doubtful_0 : decode cX10_doubtful 0 = .ok (.iload_n 1, 1) := by decide +kernel
theorem dX10_doubtful_1 : decode cX10_doubtful 1 = .ok (.iconst 0, 1) := by decide +kernel
theorem dX10_doubtful_2 : decode cX10_doubtful 2 = .ok (.iconst 1, 1) := by decide +kernel
theorem dX10_doubtful_3 : decode cX10_doubtful 3 = .ok (.invokestatic 39, 3) := by decide +kernel
theorem dX10_doubtful_6 : decode cX10_doubtful 6 = .ok (.ifCond .ne 6, 3) := by decide +kernel
theorem dX10_doubtful_9 : decode cX10_doubtful 9 = .ok (.ldc 50, 2) := by decide +kernel
theorem dX10_doubtful_11 : decode cX10_doubtful 11 = .ok (.ireturn, 1) := by decide +kernel
theorem dX10_doubtful_12 : decode cX10_doubtful 12 = .ok (.ldc 110, 2) := by decide +kernel
theorem dX10_doubtful_14 : decode cX10_doubtful 14 = .ok (.istore_n 2, 1) := by decide +kernel
theorem dX10_doubtful_15 : decode cX10_doubtful 15 = .ok (.iconst (-1), 1) := by decide +kernel
theorem dX10_doubtful_16 : decode cX10_doubtful 16 = .ok (.istore_n 3, 1) := by decide +kernel
theorem dX10_doubtful_17 : decode cX10_doubtful 17 = .ok (.iconst 0, 1) := by decide +kernel
theorem dX10_doubtful_18 : decode cX10_doubtful 18 = .ok (.istore 4, 2) := by decide +kernel
theorem dX10_doubtful_20 : decode cX10_doubtful 20 = .ok (.iload 4, 2) := by decide +kernel
theorem dX10_doubtful_22 : decode cX10_doubtful 22 = .ok (.aload_n 0, 1) := by decide +kernel
theorem dX10_doubtful_23 : decode cX10_doubtful 23 = .ok (.getfield 7, 3) := by decide +kernel
theorem dX10_doubtful_26 : decode cX10_doubtful 26 = .ok (.sipush 282, 3) := by decide +kernel
theorem dX10_doubtful_29 : decode cX10_doubtful 29 = .ok (.iaload, 1) := by decide +kernel
theorem dX10_doubtful_30 : decode cX10_doubtful 30 = .ok (.if_icmp .ge 77, 3) := by decide +kernel
theorem dX10_doubtful_33 : decode cX10_doubtful 33 = .ok (.aload_n 0, 1) := by decide +kernel
theorem dX10_doubtful_34 : decode cX10_doubtful 34 = .ok (.iload 4, 2) := by decide +kernel
theorem dX10_doubtful_36 : decode cX10_doubtful 36 = .ok (.iconst 3, 1) := by decide +kernel
theorem dX10_doubtful_37 : decode cX10_doubtful 37 = .ok (.invokevirtual 47, 3) := by decide +kernel
theorem dX10_doubtful_40 : decode cX10_doubtful 40 = .ok (.ifCond .ge 7, 3) := by decide +kernel
theorem dX10_doubtful_43 : decode cX10_doubtful 43 = .ok (.iconst (-1), 1) := by decide +kernel
theorem dX10_doubtful_44 : decode cX10_doubtful 44 = .ok (.goto 29, 3) := by decide +kernel
theorem dX10_doubtful_47 : decode cX10_doubtful 47 = .ok (.aload_n 0, 1) := by decide +kernel
theorem dX10_doubtful_48 : decode cX10_doubtful 48 = .ok (.getfield 7, 3) := by decide +kernel
theorem dX10_doubtful_51 : decode cX10_doubtful 51 = .ok (.sipush 276, 3) := by decide +kernel
theorem dX10_doubtful_54 : decode cX10_doubtful 54 = .ok (.aload_n 0, 1) := by decide +kernel
theorem dX10_doubtful_55 : decode cX10_doubtful 55 = .ok (.iload 4, 2) := by decide +kernel
theorem dX10_doubtful_57 : decode cX10_doubtful 57 = .ok (.iconst 3, 1) := by decide +kernel
theorem dX10_doubtful_58 : decode cX10_doubtful 58 = .ok (.invokevirtual 47, 3) := by decide +kernel
theorem dX10_doubtful_61 : decode cX10_doubtful 61 = .ok (.iadd, 1) := by decide +kernel
theorem dX10_doubtful_62 : decode cX10_doubtful 62 = .ok (.iaload, 1) := by decide +kernel
theorem dX10_doubtful_63 : decode cX10_doubtful 63 = .ok (.aload_n 0, 1) := by decide +kernel
theorem dX10_doubtful_64 : decode cX10_doubtful 64 = .ok (.iload 4, 2) := by decide +kernel
theorem dX10_doubtful_66 : decode cX10_doubtful 66 = .ok (.iconst 2, 1) := by decide +kernel
theorem dX10_doubtful_67 : decode cX10_doubtful 67 = .ok (.invokevirtual 47, 3) := by decide +kernel
theorem dX10_doubtful_70 : decode cX10_doubtful 70 = .ok (.invokestatic 43, 3) := by decide +kernel
theorem dX10_doubtful_73 : decode cX10_doubtful 73 = .ok (.istore 5, 2) := by decide +kernel
theorem dX10_doubtful_75 : decode cX10_doubtful 75 = .ok (.iload 5, 2) := by decide +kernel
theorem dX10_doubtful_77 : decode cX10_doubtful 77 = .ok (.iload_n 3, 1) := by decide +kernel
theorem dX10_doubtful_78 : decode cX10_doubtful 78 = .ok (.if_icmp .le 8, 3) := by decide +kernel
theorem dX10_doubtful_81 : decode cX10_doubtful 81 = .ok (.iload 4, 2) := by decide +kernel
theorem dX10_doubtful_83 : decode cX10_doubtful 83 = .ok (.goto 4, 3) := by decide +kernel
theorem dX10_doubtful_86 : decode cX10_doubtful 86 = .ok (.iload_n 2, 1) := by decide +kernel
theorem dX10_doubtful_87 : decode cX10_doubtful 87 = .ok (.istore_n 2, 1) := by decide +kernel
theorem dX10_doubtful_88 : decode cX10_doubtful 88 = .ok (.iload 5, 2) := by decide +kernel
theorem dX10_doubtful_90 : decode cX10_doubtful 90 = .ok (.iload_n 3, 1) := by decide +kernel
theorem dX10_doubtful_91 : decode cX10_doubtful 91 = .ok (.if_icmp .le 8, 3) := by decide +kernel
theorem dX10_doubtful_94 : decode cX10_doubtful 94 = .ok (.iload 5, 2) := by decide +kernel
theorem dX10_doubtful_96 : decode cX10_doubtful 96 = .ok (.goto 4, 3) := by decide +kernel
theorem dX10_doubtful_99 : decode cX10_doubtful 99 = .ok (.iload_n 3, 1) := by decide +kernel
theorem dX10_doubtful_100 : decode cX10_doubtful 100 = .ok (.istore_n 3, 1) := by decide +kernel
theorem dX10_doubtful_101 : decode cX10_doubtful 101 = .ok (.iinc 4 1, 3) := by decide +kernel
theorem dX10_doubtful_104 : decode cX10_doubtful 104 = .ok (.goto (-84), 3) := by decide +kernel
theorem dX10_doubtful_107 : decode cX10_doubtful 107 = .ok (.iload_n 2, 1) := by decide +kernel
theorem dX10_doubtful_108 : decode cX10_doubtful 108 = .ok (.ifCond .lt 7, 3) := by decide +kernel
theorem dX10_doubtful_111 : decode cX10_doubtful 111 = .ok (.iload_n 1, 1) := by decide +kernel
theorem dX10_doubtful_112 : decode cX10_doubtful 112 = .ok (.ifCond .ne 7, 3) := by decide +kernel
theorem dX10_doubtful_115 : decode cX10_doubtful 115 = .ok (.iload_n 2, 1) := by decide +kernel
theorem dX10_doubtful_116 : decode cX10_doubtful 116 = .ok (.goto 4, 3) := by decide +kernel
theorem dX10_doubtful_119 : decode cX10_doubtful 119 = .ok (.iload_n 3, 1) := by decide +kernel
theorem dX10_doubtful_120 : decode cX10_doubtful 120 = .ok (.ireturn, 1) := by decide +kernel
theorem dX10_ofTurns_0 : decode cX10_ofTurns 0 = .ok (.iconst 0, 1) := by decide +kernel
theorem dX10_ofTurns_1 : decode cX10_ofTurns 1 = .ok (.istore_n 2, 1) := by decide +kernel
theorem dX10_ofTurns_2 : decode cX10_ofTurns 2 = .ok (.iconst 0, 1) := by decide +kernel
theorem dX10_ofTurns_3 : decode cX10_ofTurns 3 = .ok (.istore_n 3, 1) := by decide +kernel
theorem dX10_ofTurns_4 : decode cX10_ofTurns 4 = .ok (.iload_n 3, 1) := by decide +kernel
theorem dX10_ofTurns_5 : decode cX10_ofTurns 5 = .ok (.aload_n 0, 1) := by decide +kernel
theorem dX10_ofTurns_6 : decode cX10_ofTurns 6 = .ok (.getfield 7, 3) := by decide +kernel
theorem dX10_ofTurns_9 : decode cX10_ofTurns 9 = .ok (.sipush 282, 3) := by decide +kernel
theorem dX10_ofTurns_12 : decode cX10_ofTurns 12 = .ok (.iaload, 1) := by decide +kernel
theorem dX10_ofTurns_13 : decode cX10_ofTurns 13 = .ok (.if_icmp .ge 57, 3) := by decide +kernel
theorem dX10_ofTurns_16 : decode cX10_ofTurns 16 = .ok (.iload_n 2, 1) := by decide +kernel
theorem dX10_ofTurns_17 : decode cX10_ofTurns 17 = .ok (.iload_n 1, 1) := by decide +kernel
theorem dX10_ofTurns_18 : decode cX10_ofTurns 18 = .ok (.iconst 2, 1) := by decide +kernel
theorem dX10_ofTurns_19 : decode cX10_ofTurns 19 = .ok (.if_icmp .ne 12, 3) := by decide +kernel
theorem dX10_ofTurns_22 : decode cX10_ofTurns 22 = .ok (.aload_n 0, 1) := by decide +kernel
theorem dX10_ofTurns_23 : decode cX10_ofTurns 23 = .ok (.iload_n 3, 1) := by decide +kernel
theorem dX10_ofTurns_24 : decode cX10_ofTurns 24 = .ok (.iconst 4, 1) := by decide +kernel
theorem dX10_ofTurns_25 : decode cX10_ofTurns 25 = .ok (.invokevirtual 47, 3) := by decide +kernel
theorem dX10_ofTurns_28 : decode cX10_ofTurns 28 = .ok (.goto 34, 3) := by decide +kernel
theorem dX10_ofTurns_31 : decode cX10_ofTurns 31 = .ok (.iload_n 1, 1) := by decide +kernel
theorem dX10_ofTurns_32 : decode cX10_ofTurns 32 = .ok (.iconst 4, 1) := by decide +kernel
theorem dX10_ofTurns_33 : decode cX10_ofTurns 33 = .ok (.if_icmp .ne 20, 3) := by decide +kernel
theorem dX10_ofTurns_36 : decode cX10_ofTurns 36 = .ok (.aload_n 0, 1) := by decide +kernel
theorem dX10_ofTurns_37 : decode cX10_ofTurns 37 = .ok (.iload_n 3, 1) := by decide +kernel
theorem dX10_ofTurns_38 : decode cX10_ofTurns 38 = .ok (.iconst 3, 1) := by decide +kernel
theorem dX10_ofTurns_39 : decode cX10_ofTurns 39 = .ok (.invokevirtual 47, 3) := by decide +kernel
theorem dX10_ofTurns_42 : decode cX10_ofTurns 42 = .ok (.ifCond .ge 7, 3) := by decide +kernel
theorem dX10_ofTurns_45 : decode cX10_ofTurns 45 = .ok (.iconst 1, 1) := by decide +kernel
theorem dX10_ofTurns_46 : decode cX10_ofTurns 46 = .ok (.goto 16, 3) := by decide +kernel
theorem dX10_ofTurns_49 : decode cX10_ofTurns 49 = .ok (.iconst 0, 1) := by decide +kernel
theorem dX10_ofTurns_50 : decode cX10_ofTurns 50 = .ok (.goto 12, 3) := by decide +kernel
theorem dX10_ofTurns_53 : decode cX10_ofTurns 53 = .ok (.aload_n 0, 1) := by decide +kernel
theorem dX10_ofTurns_54 : decode cX10_ofTurns 54 = .ok (.iload_n 3, 1) := by decide +kernel
theorem dX10_ofTurns_55 : decode cX10_ofTurns 55 = .ok (.iconst 0, 1) := by decide +kernel
theorem dX10_ofTurns_56 : decode cX10_ofTurns 56 = .ok (.invokevirtual 111, 3) := by decide +kernel
theorem dX10_ofTurns_59 : decode cX10_ofTurns 59 = .ok (.invokestatic 159, 3) := by decide +kernel
theorem dX10_ofTurns_62 : decode cX10_ofTurns 62 = .ok (.iadd, 1) := by decide +kernel
theorem dX10_ofTurns_63 : decode cX10_ofTurns 63 = .ok (.istore_n 2, 1) := by decide +kernel
theorem dX10_ofTurns_64 : decode cX10_ofTurns 64 = .ok (.iinc 3 1, 3) := by decide +kernel
theorem dX10_ofTurns_67 : decode cX10_ofTurns 67 = .ok (.goto (-63), 3) := by decide +kernel
theorem dX10_ofTurns_70 : decode cX10_ofTurns 70 = .ok (.iload_n 1, 1) := by decide +kernel
theorem dX10_ofTurns_71 : decode cX10_ofTurns 71 = .ok (.iconst 5, 1) := by decide +kernel
theorem dX10_ofTurns_72 : decode cX10_ofTurns 72 = .ok (.if_icmp .ne 9, 3) := by decide +kernel
theorem dX10_ofTurns_75 : decode cX10_ofTurns 75 = .ok (.iload_n 2, 1) := by decide +kernel
theorem dX10_ofTurns_76 : decode cX10_ofTurns 76 = .ok (.iconst 2, 1) := by decide +kernel
theorem dX10_ofTurns_77 : decode cX10_ofTurns 77 = .ok (.idiv, 1) := by decide +kernel
theorem dX10_ofTurns_78 : decode cX10_ofTurns 78 = .ok (.goto 4, 3) := by decide +kernel
theorem dX10_ofTurns_81 : decode cX10_ofTurns 81 = .ok (.iload_n 2, 1) := by decide +kernel
theorem dX10_ofTurns_82 : decode cX10_ofTurns 82 = .ok (.ireturn, 1) := by decide +kernel
theorem dX10_seconds_0 : decode cX10_seconds 0 = .ok (.iconst 0, 1) := by decide +kernel
theorem dX10_seconds_1 : decode cX10_seconds 1 = .ok (.istore_n 2, 1) := by decide +kernel
theorem dX10_seconds_2 : decode cX10_seconds 2 = .ok (.iconst 0, 1) := by decide +kernel
theorem dX10_seconds_3 : decode cX10_seconds 3 = .ok (.istore_n 3, 1) := by decide +kernel
theorem dX10_seconds_4 : decode cX10_seconds 4 = .ok (.iload_n 3, 1) := by decide +kernel
theorem dX10_seconds_5 : decode cX10_seconds 5 = .ok (.sipush 1999, 3) := by decide +kernel
theorem dX10_seconds_8 : decode cX10_seconds 8 = .ok (.if_icmp .gt 29, 3) := by decide +kernel
theorem dX10_seconds_11 : decode cX10_seconds 11 = .ok (.iload_n 2, 1) := by decide +kernel
theorem dX10_seconds_12 : decode cX10_seconds 12 = .ok (.aload_n 0, 1) := by decide +kernel
theorem dX10_seconds_13 : decode cX10_seconds 13 = .ok (.iload_n 3, 1) := by decide +kernel
theorem dX10_seconds_14 : decode cX10_seconds 14 = .ok (.invokevirtual 107, 3) := by decide +kernel
theorem dX10_seconds_17 : decode cX10_seconds 17 = .ok (.invokestatic 159, 3) := by decide +kernel
theorem dX10_seconds_20 : decode cX10_seconds 20 = .ok (.iload_n 1, 1) := by decide +kernel
theorem dX10_seconds_21 : decode cX10_seconds 21 = .ok (.if_icmp .lt 7, 3) := by decide +kernel
theorem dX10_seconds_24 : decode cX10_seconds 24 = .ok (.iconst 1, 1) := by decide +kernel
theorem dX10_seconds_25 : decode cX10_seconds 25 = .ok (.goto 4, 3) := by decide +kernel
theorem dX10_seconds_28 : decode cX10_seconds 28 = .ok (.iconst 0, 1) := by decide +kernel
theorem dX10_seconds_29 : decode cX10_seconds 29 = .ok (.iadd, 1) := by decide +kernel
theorem dX10_seconds_30 : decode cX10_seconds 30 = .ok (.istore_n 2, 1) := by decide +kernel
theorem dX10_seconds_31 : decode cX10_seconds 31 = .ok (.iinc 3 1, 3) := by decide +kernel
theorem dX10_seconds_34 : decode cX10_seconds 34 = .ok (.goto (-30), 3) := by decide +kernel
theorem dX10_seconds_37 : decode cX10_seconds 37 = .ok (.iload_n 2, 1) := by decide +kernel
theorem dX10_seconds_38 : decode cX10_seconds 38 = .ok (.ireturn, 1) := by decide +kernel
theorem dX10_voicesAll_0 : decode cX10_voicesAll 0 = .ok (.iconst 0, 1) := by decide +kernel
theorem dX10_voicesAll_1 : decode cX10_voicesAll 1 = .ok (.istore_n 1, 1) := by decide +kernel
theorem dX10_voicesAll_2 : decode cX10_voicesAll 2 = .ok (.iconst 0, 1) := by decide +kernel
theorem dX10_voicesAll_3 : decode cX10_voicesAll 3 = .ok (.istore_n 2, 1) := by decide +kernel
theorem dX10_voicesAll_4 : decode cX10_voicesAll 4 = .ok (.iload_n 2, 1) := by decide +kernel
theorem dX10_voicesAll_5 : decode cX10_voicesAll 5 = .ok (.bipush 6, 2) := by decide +kernel
theorem dX10_voicesAll_7 : decode cX10_voicesAll 7 = .ok (.if_icmp .ge 32, 3) := by decide +kernel
theorem dX10_voicesAll_10 : decode cX10_voicesAll 10 = .ok (.iload_n 1, 1) := by decide +kernel
theorem dX10_voicesAll_11 : decode cX10_voicesAll 11 = .ok (.aload_n 0, 1) := by decide +kernel
theorem dX10_voicesAll_12 : decode cX10_voicesAll 12 = .ok (.getfield 7, 3) := by decide +kernel
theorem dX10_voicesAll_15 : decode cX10_voicesAll 15 = .ok (.sipush 276, 3) := by decide +kernel
theorem dX10_voicesAll_18 : decode cX10_voicesAll 18 = .ok (.iload_n 2, 1) := by decide +kernel
theorem dX10_voicesAll_19 : decode cX10_voicesAll 19 = .ok (.iadd, 1) := by decide +kernel
theorem dX10_voicesAll_20 : decode cX10_voicesAll 20 = .ok (.iaload, 1) := by decide +kernel
theorem dX10_voicesAll_21 : decode cX10_voicesAll 21 = .ok (.ifCond .le 9, 3) := by decide +kernel
theorem dX10_voicesAll_24 : decode cX10_voicesAll 24 = .ok (.iconst 1, 1) := by decide +kernel
theorem dX10_voicesAll_25 : decode cX10_voicesAll 25 = .ok (.iload_n 2, 1) := by decide +kernel
theorem dX10_voicesAll_26 : decode cX10_voicesAll 26 = .ok (.ishl, 1) := by decide +kernel
theorem dX10_voicesAll_27 : decode cX10_voicesAll 27 = .ok (.goto 4, 3) := by decide +kernel
theorem dX10_voicesAll_30 : decode cX10_voicesAll 30 = .ok (.iconst 0, 1) := by decide +kernel
theorem dX10_voicesAll_31 : decode cX10_voicesAll 31 = .ok (.ior, 1) := by decide +kernel
theorem dX10_voicesAll_32 : decode cX10_voicesAll 32 = .ok (.istore_n 1, 1) := by decide +kernel
theorem dX10_voicesAll_33 : decode cX10_voicesAll 33 = .ok (.iinc 2 1, 3) := by decide +kernel
theorem dX10_voicesAll_36 : decode cX10_voicesAll 36 = .ok (.goto (-32), 3) := by decide +kernel
theorem dX10_voicesAll_39 : decode cX10_voicesAll 39 = .ok (.iload_n 1, 1) := by decide +kernel
theorem dX10_voicesAll_40 : decode cX10_voicesAll 40 = .ok (.ireturn, 1) := by decide +kernel
theorem dX10_corrections_0 : decode cX10_corrections 0 = .ok (.iconst 0, 1) := by decide +kernel
theorem dX10_corrections_1 : decode cX10_corrections 1 = .ok (.istore_n 1, 1) := by decide +kernel
theorem dX10_corrections_2 : decode cX10_corrections 2 = .ok (.iconst 0, 1) := by decide +kernel
theorem dX10_corrections_3 : decode cX10_corrections 3 = .ok (.istore_n 2, 1) := by decide +kernel
theorem dX10_corrections_4 : decode cX10_corrections 4 = .ok (.iload_n 2, 1) := by decide +kernel
theorem dX10_corrections_5 : decode cX10_corrections 5 = .ok (.bipush 16, 2) := by decide +kernel
theorem dX10_corrections_7 : decode cX10_corrections 7 = .ok (.if_icmp .ge 30, 3) := by decide +kernel
theorem dX10_corrections_10 : decode cX10_corrections 10 = .ok (.iload_n 1, 1) := by decide +kernel
theorem dX10_corrections_11 : decode cX10_corrections 11 = .ok (.aload_n 0, 1) := by decide +kernel
theorem dX10_corrections_12 : decode cX10_corrections 12 = .ok (.getfield 7, 3) := by decide +kernel
theorem dX10_corrections_15 : decode cX10_corrections 15 = .ok (.sipush 260, 3) := by decide +kernel
theorem dX10_corrections_18 : decode cX10_corrections 18 = .ok (.iload_n 2, 1) := by decide +kernel
theorem dX10_corrections_19 : decode cX10_corrections 19 = .ok (.iadd, 1) := by decide +kernel
theorem dX10_corrections_20 : decode cX10_corrections 20 = .ok (.iaload, 1) := by decide +kernel
theorem dX10_corrections_21 : decode cX10_corrections 21 = .ok (.ifCond .lt 7, 3) := by decide +kernel
theorem dX10_corrections_24 : decode cX10_corrections 24 = .ok (.iconst 1, 1) := by decide +kernel
theorem dX10_corrections_25 : decode cX10_corrections 25 = .ok (.goto 4, 3) := by decide +kernel
theorem dX10_corrections_28 : decode cX10_corrections 28 = .ok (.iconst 0, 1) := by decide +kernel
theorem dX10_corrections_29 : decode cX10_corrections 29 = .ok (.iadd, 1) := by decide +kernel
theorem dX10_corrections_30 : decode cX10_corrections 30 = .ok (.istore_n 1, 1) := by decide +kernel
theorem dX10_corrections_31 : decode cX10_corrections 31 = .ok (.iinc 2 1, 3) := by decide +kernel
theorem dX10_corrections_34 : decode cX10_corrections 34 = .ok (.goto (-30), 3) := by decide +kernel
theorem dX10_corrections_37 : decode cX10_corrections 37 = .ok (.iload_n 1, 1) := by decide +kernel
theorem dX10_corrections_38 : decode cX10_corrections 38 = .ok (.ireturn, 1) := by decide +kernel
theorem dX10_count_0 : decode cX10_count 0 = .ok (.iload_n 1, 1) := by decide +kernel
theorem dX10_count_1 : decode cX10_count 1 = .ok (.tableswitch 159 0 20 #[99, 108, 116, 122, 116, 116, 127, 127, 135, 140, 145, 159, 159, 159, 159, 159, 159, 159, 159, 159, 150], 99) := by decide +kernel
theorem dX10_count_100 : decode cX10_count 100 = .ok (.aload_n 0, 1) := by decide +kernel
theorem dX10_count_101 : decode cX10_count 101 = .ok (.getfield 7, 3) := by decide +kernel
theorem dX10_count_104 : decode cX10_count 104 = .ok (.sipush 282, 3) := by decide +kernel
theorem dX10_count_107 : decode cX10_count 107 = .ok (.iaload, 1) := by decide +kernel
theorem dX10_count_108 : decode cX10_count 108 = .ok (.ireturn, 1) := by decide +kernel
theorem dX10_count_109 : decode cX10_count 109 = .ok (.aload_n 0, 1) := by decide +kernel
theorem dX10_count_110 : decode cX10_count 110 = .ok (.invokevirtual 162, 3) := by decide +kernel
theorem dX10_count_113 : decode cX10_count 113 = .ok (.invokestatic 159, 3) := by decide +kernel
theorem dX10_count_116 : decode cX10_count 116 = .ok (.ireturn, 1) := by decide +kernel
theorem dX10_count_117 : decode cX10_count 117 = .ok (.aload_n 0, 1) := by decide +kernel
theorem dX10_count_118 : decode cX10_count 118 = .ok (.iload_n 1, 1) := by decide +kernel
theorem dX10_count_119 : decode cX10_count 119 = .ok (.invokevirtual 165, 3) := by decide +kernel
theorem dX10_count_122 : decode cX10_count 122 = .ok (.ireturn, 1) := by decide +kernel
theorem dX10_count_123 : decode cX10_count 123 = .ok (.aload_n 0, 1) := by decide +kernel
theorem dX10_count_124 : decode cX10_count 124 = .ok (.invokevirtual 168, 3) := by decide +kernel
theorem dX10_count_127 : decode cX10_count 127 = .ok (.ireturn, 1) := by decide +kernel
theorem dX10_count_128 : decode cX10_count 128 = .ok (.aload_n 0, 1) := by decide +kernel
theorem dX10_count_129 : decode cX10_count 129 = .ok (.iload_n 1, 1) := by decide +kernel
theorem dX10_count_130 : decode cX10_count 130 = .ok (.iconst 5, 1) := by decide +kernel
theorem dX10_count_131 : decode cX10_count 131 = .ok (.isub, 1) := by decide +kernel
theorem dX10_count_132 : decode cX10_count 132 = .ok (.invokevirtual 171, 3) := by decide +kernel
theorem dX10_count_135 : decode cX10_count 135 = .ok (.ireturn, 1) := by decide +kernel
theorem dX10_count_136 : decode cX10_count 136 = .ok (.aload_n 0, 1) := by decide +kernel
theorem dX10_count_137 : decode cX10_count 137 = .ok (.getfield 35, 3) := by decide +kernel
theorem dX10_count_140 : decode cX10_count 140 = .ok (.ireturn, 1) := by decide +kernel
theorem dX10_count_141 : decode cX10_count 141 = .ok (.aload_n 0, 1) := by decide +kernel
theorem dX10_count_142 : decode cX10_count 142 = .ok (.getfield 174, 3) := by decide +kernel
theorem dX10_count_145 : decode cX10_count 145 = .ok (.ireturn, 1) := by decide +kernel
theorem dX10_count_146 : decode cX10_count 146 = .ok (.aload_n 0, 1) := by decide +kernel
theorem dX10_count_147 : decode cX10_count 147 = .ok (.invokevirtual 162, 3) := by decide +kernel
theorem dX10_count_150 : decode cX10_count 150 = .ok (.ireturn, 1) := by decide +kernel
theorem dX10_count_151 : decode cX10_count 151 = .ok (.aload_n 0, 1) := by decide +kernel
theorem dX10_count_152 : decode cX10_count 152 = .ok (.getfield 7, 3) := by decide +kernel
theorem dX10_count_155 : decode cX10_count 155 = .ok (.sipush 283, 3) := by decide +kernel
theorem dX10_count_158 : decode cX10_count 158 = .ok (.iaload, 1) := by decide +kernel
theorem dX10_count_159 : decode cX10_count 159 = .ok (.ireturn, 1) := by decide +kernel
theorem dX10_count_160 : decode cX10_count 160 = .ok (.ldc 50, 2) := by decide +kernel
theorem dX10_count_162 : decode cX10_count 162 = .ok (.ireturn, 1) := by decide +kernel
theorem dX10_undo_0 : decode cX10_undo 0 = .ok (.aload_n 0, 1) := by decide +kernel
theorem dX10_undo_1 : decode cX10_undo 1 = .ok (.getfield 35, 3) := by decide +kernel
theorem dX10_undo_4 : decode cX10_undo 4 = .ok (.ifCond .ne 6, 3) := by decide +kernel
theorem dX10_undo_7 : decode cX10_undo 7 = .ok (.ldc 80, 2) := by decide +kernel
theorem dX10_undo_9 : decode cX10_undo 9 = .ok (.ireturn, 1) := by decide +kernel
theorem dX10_undo_10 : decode cX10_undo 10 = .ok (.aload_n 0, 1) := by decide +kernel
theorem dX10_undo_11 : decode cX10_undo 11 = .ok (.dup, 1) := by decide +kernel
theorem dX10_undo_12 : decode cX10_undo 12 = .ok (.getfield 35, 3) := by decide +kernel
theorem dX10_undo_15 : decode cX10_undo 15 = .ok (.iconst 1, 1) := by decide +kernel
theorem dX10_undo_16 : decode cX10_undo 16 = .ok (.isub, 1) := by decide +kernel
theorem dX10_undo_17 : decode cX10_undo 17 = .ok (.putfield 35, 3) := by decide +kernel
theorem dX10_undo_20 : decode cX10_undo 20 = .ok (.iconst 0, 1) := by decide +kernel
theorem dX10_undo_21 : decode cX10_undo 21 = .ok (.istore_n 1, 1) := by decide +kernel
theorem dX10_undo_22 : decode cX10_undo 22 = .ok (.iload_n 1, 1) := by decide +kernel
theorem dX10_undo_23 : decode cX10_undo 23 = .ok (.sipush 284, 3) := by decide +kernel
theorem dX10_undo_26 : decode cX10_undo 26 = .ok (.if_icmp .ge 30, 3) := by decide +kernel
theorem dX10_undo_29 : decode cX10_undo 29 = .ok (.aload_n 0, 1) := by decide +kernel
theorem dX10_undo_30 : decode cX10_undo 30 = .ok (.getfield 7, 3) := by decide +kernel
theorem dX10_undo_33 : decode cX10_undo 33 = .ok (.iload_n 1, 1) := by decide +kernel
theorem dX10_undo_34 : decode cX10_undo 34 = .ok (.aload_n 0, 1) := by decide +kernel
theorem dX10_undo_35 : decode cX10_undo 35 = .ok (.getfield 13, 3) := by decide +kernel
theorem dX10_undo_38 : decode cX10_undo 38 = .ok (.sipush 284, 3) := by decide +kernel
theorem dX10_undo_41 : decode cX10_undo 41 = .ok (.aload_n 0, 1) := by decide +kernel
theorem dX10_undo_42 : decode cX10_undo 42 = .ok (.getfield 35, 3) := by decide +kernel
theorem dX10_undo_45 : decode cX10_undo 45 = .ok (.imul, 1) := by decide +kernel
theorem dX10_undo_46 : decode cX10_undo 46 = .ok (.iload_n 1, 1) := by decide +kernel
theorem dX10_undo_47 : decode cX10_undo 47 = .ok (.iadd, 1) := by decide +kernel
theorem dX10_undo_48 : decode cX10_undo 48 = .ok (.iaload, 1) := by decide +kernel
theorem dX10_undo_49 : decode cX10_undo 49 = .ok (.iastore, 1) := by decide +kernel
theorem dX10_undo_50 : decode cX10_undo 50 = .ok (.iinc 1 1, 3) := by decide +kernel
theorem dX10_undo_53 : decode cX10_undo 53 = .ok (.goto (-31), 3) := by decide +kernel
theorem dX10_undo_56 : decode cX10_undo 56 = .ok (.aload_n 0, 1) := by decide +kernel
theorem dX10_undo_57 : decode cX10_undo 57 = .ok (.getfield 35, 3) := by decide +kernel
theorem dX10_undo_60 : decode cX10_undo 60 = .ok (.ireturn, 1) := by decide +kernel
theorem dX10_type_0 : decode cX10_type 0 = .ok (.iload_n 1, 1) := by decide +kernel
theorem dX10_type_1 : decode cX10_type 1 = .ok (.bipush 32, 2) := by decide +kernel
theorem dX10_type_3 : decode cX10_type 3 = .ok (.bipush 126, 2) := by decide +kernel
theorem dX10_type_5 : decode cX10_type 5 = .ok (.invokestatic 39, 3) := by decide +kernel
theorem dX10_type_8 : decode cX10_type 8 = .ok (.ifCond .ne 6, 3) := by decide +kernel
theorem dX10_type_11 : decode cX10_type 11 = .ok (.ldc 50, 2) := by decide +kernel
theorem dX10_type_13 : decode cX10_type 13 = .ok (.ireturn, 1) := by decide +kernel
theorem dX10_type_14 : decode cX10_type 14 = .ok (.aload_n 0, 1) := by decide +kernel
theorem dX10_type_15 : decode cX10_type 15 = .ok (.getfield 174, 3) := by decide +kernel
theorem dX10_type_18 : decode cX10_type 18 = .ok (.bipush 60, 2) := by decide +kernel
theorem dX10_type_20 : decode cX10_type 20 = .ok (.if_icmp .ne 6, 3) := by decide +kernel
theorem dX10_type_23 : decode cX10_type 23 = .ok (.ldc 51, 2) := by decide +kernel
theorem dX10_type_25 : decode cX10_type 25 = .ok (.ireturn, 1) := by decide +kernel
theorem dX10_type_26 : decode cX10_type 26 = .ok (.aload_n 0, 1) := by decide +kernel
theorem dX10_type_27 : decode cX10_type 27 = .ok (.getfield 19, 3) := by decide +kernel
theorem dX10_type_30 : decode cX10_type 30 = .ok (.aload_n 0, 1) := by decide +kernel
theorem dX10_type_31 : decode cX10_type 31 = .ok (.getfield 174, 3) := by decide +kernel
theorem dX10_type_34 : decode cX10_type 34 = .ok (.iload_n 1, 1) := by decide +kernel
theorem dX10_type_35 : decode cX10_type 35 = .ok (.iastore, 1) := by decide +kernel
theorem dX10_type_36 : decode cX10_type 36 = .ok (.aload_n 0, 1) := by decide +kernel
theorem dX10_type_37 : decode cX10_type 37 = .ok (.dup, 1) := by decide +kernel
theorem dX10_type_38 : decode cX10_type 38 = .ok (.getfield 174, 3) := by decide +kernel
theorem dX10_type_41 : decode cX10_type 41 = .ok (.iconst 1, 1) := by decide +kernel
theorem dX10_type_42 : decode cX10_type 42 = .ok (.iadd, 1) := by decide +kernel
theorem dX10_type_43 : decode cX10_type 43 = .ok (.putfield 174, 3) := by decide +kernel
theorem dX10_type_46 : decode cX10_type 46 = .ok (.aload_n 0, 1) := by decide +kernel
theorem dX10_type_47 : decode cX10_type 47 = .ok (.getfield 174, 3) := by decide +kernel
theorem dX10_type_50 : decode cX10_type 50 = .ok (.ireturn, 1) := by decide +kernel
theorem dX10_clearText_0 : decode cX10_clearText 0 = .ok (.aload_n 0, 1) := by decide +kernel
theorem dX10_clearText_1 : decode cX10_clearText 1 = .ok (.getfield 174, 3) := by decide +kernel
theorem dX10_clearText_4 : decode cX10_clearText 4 = .ok (.istore_n 1, 1) := by decide +kernel
theorem dX10_clearText_5 : decode cX10_clearText 5 = .ok (.aload_n 0, 1) := by decide +kernel
theorem dX10_clearText_6 : decode cX10_clearText 6 = .ok (.iconst 0, 1) := by decide +kernel
theorem dX10_clearText_7 : decode cX10_clearText 7 = .ok (.putfield 174, 3) := by decide +kernel
theorem dX10_clearText_10 : decode cX10_clearText 10 = .ok (.iload_n 1, 1) := by decide +kernel
theorem dX10_clearText_11 : decode cX10_clearText 11 = .ok (.ireturn, 1) := by decide +kernel
theorem dX10_isAt_0 : decode cX10_isAt 0 = .ok (.aload_n 0, 1) := by decide +kernel
theorem dX10_isAt_1 : decode cX10_isAt 1 = .ok (.getfield 177, 3) := by decide +kernel
theorem dX10_isAt_4 : decode cX10_isAt 4 = .ok (.aload_n 0, 1) := by decide +kernel
theorem dX10_isAt_5 : decode cX10_isAt 5 = .ok (.getfield 174, 3) := by decide +kernel
theorem dX10_isAt_8 : decode cX10_isAt 8 = .ok (.if_icmp .ge 24, 3) := by decide +kernel
theorem dX10_isAt_11 : decode cX10_isAt 11 = .ok (.aload_n 0, 1) := by decide +kernel
theorem dX10_isAt_12 : decode cX10_isAt 12 = .ok (.getfield 19, 3) := by decide +kernel
theorem dX10_isAt_15 : decode cX10_isAt 15 = .ok (.aload_n 0, 1) := by decide +kernel
theorem dX10_isAt_16 : decode cX10_isAt 16 = .ok (.getfield 177, 3) := by decide +kernel
theorem dX10_isAt_19 : decode cX10_isAt 19 = .ok (.iaload, 1) := by decide +kernel
theorem dX10_isAt_20 : decode cX10_isAt 20 = .ok (.iload_n 1, 1) := by decide +kernel
theorem dX10_isAt_21 : decode cX10_isAt 21 = .ok (.iload_n 2, 1) := by decide +kernel
theorem dX10_isAt_22 : decode cX10_isAt 22 = .ok (.invokestatic 39, 3) := by decide +kernel
theorem dX10_isAt_25 : decode cX10_isAt 25 = .ok (.ifCond .eq 7, 3) := by decide +kernel
theorem dX10_isAt_28 : decode cX10_isAt 28 = .ok (.iconst 1, 1) := by decide +kernel
theorem dX10_isAt_29 : decode cX10_isAt 29 = .ok (.goto 4, 3) := by decide +kernel
theorem dX10_isAt_32 : decode cX10_isAt 32 = .ok (.iconst 0, 1) := by decide +kernel
theorem dX10_isAt_33 : decode cX10_isAt 33 = .ok (.ireturn, 1) := by decide +kernel
theorem dX10_sign_0 : decode cX10_sign 0 = .ok (.aload_n 0, 1) := by decide +kernel
theorem dX10_sign_1 : decode cX10_sign 1 = .ok (.iload_n 1, 1) := by decide +kernel
theorem dX10_sign_2 : decode cX10_sign 2 = .ok (.iload_n 1, 1) := by decide +kernel
theorem dX10_sign_3 : decode cX10_sign 3 = .ok (.invokevirtual 180, 3) := by decide +kernel
theorem dX10_sign_6 : decode cX10_sign 6 = .ok (.istore_n 2, 1) := by decide +kernel
theorem dX10_sign_7 : decode cX10_sign 7 = .ok (.aload_n 0, 1) := by decide +kernel
theorem dX10_sign_8 : decode cX10_sign 8 = .ok (.dup, 1) := by decide +kernel
theorem dX10_sign_9 : decode cX10_sign 9 = .ok (.getfield 177, 3) := by decide +kernel
theorem dX10_sign_12 : decode cX10_sign 12 = .ok (.iload_n 2, 1) := by decide +kernel
theorem dX10_sign_13 : decode cX10_sign 13 = .ok (.ifCond .eq 7, 3) := by decide +kernel
theorem dX10_sign_16 : decode cX10_sign 16 = .ok (.iconst 1, 1) := by decide +kernel
theorem dX10_sign_17 : decode cX10_sign 17 = .ok (.goto 4, 3) := by decide +kernel
theorem dX10_sign_20 : decode cX10_sign 20 = .ok (.iconst 0, 1) := by decide +kernel
theorem dX10_sign_21 : decode cX10_sign 21 = .ok (.iadd, 1) := by decide +kernel
theorem dX10_sign_22 : decode cX10_sign 22 = .ok (.putfield 177, 3) := by decide +kernel
theorem dX10_sign_25 : decode cX10_sign 25 = .ok (.iload_n 2, 1) := by decide +kernel
theorem dX10_sign_26 : decode cX10_sign 26 = .ok (.ireturn, 1) := by decide +kernel
theorem dX10_number_0 : decode cX10_number 0 = .ok (.aload_n 0, 1) := by decide +kernel
theorem dX10_number_1 : decode cX10_number 1 = .ok (.getfield 177, 3) := by decide +kernel
theorem dX10_number_4 : decode cX10_number 4 = .ok (.istore_n 2, 1) := by decide +kernel
theorem dX10_number_5 : decode cX10_number 5 = .ok (.aload_n 0, 1) := by decide +kernel
theorem dX10_number_6 : decode cX10_number 6 = .ok (.getfield 28, 3) := by decide +kernel
theorem dX10_number_9 : decode cX10_number 9 = .ok (.iload_n 1, 1) := by decide +kernel
theorem dX10_number_10 : decode cX10_number 10 = .ok (.iconst 0, 1) := by decide +kernel
theorem dX10_number_11 : decode cX10_number 11 = .ok (.iastore, 1) := by decide +kernel
theorem dX10_number_12 : decode cX10_number 12 = .ok (.aload_n 0, 1) := by decide +kernel
theorem dX10_number_13 : decode cX10_number 13 = .ok (.bipush 48, 2) := by decide +kernel
theorem dX10_number_15 : decode cX10_number 15 = .ok (.bipush 57, 2) := by decide +kernel
theorem dX10_number_17 : decode cX10_number 17 = .ok (.invokevirtual 180, 3) := by decide +kernel
theorem dX10_number_20 : decode cX10_number 20 = .ok (.ifCond .eq 54, 3) := by decide +kernel
theorem dX10_number_23 : decode cX10_number 23 = .ok (.aload_n 0, 1) := by decide +kernel
theorem dX10_number_24 : decode cX10_number 24 = .ok (.getfield 177, 3) := by decide +kernel
theorem dX10_number_27 : decode cX10_number 27 = .ok (.iload_n 2, 1) := by decide +kernel
theorem dX10_number_28 : decode cX10_number 28 = .ok (.isub, 1) := by decide +kernel
theorem dX10_number_29 : decode cX10_number 29 = .ok (.iconst 4, 1) := by decide +kernel
theorem dX10_number_30 : decode cX10_number 30 = .ok (.if_icmp .ge 44, 3) := by decide +kernel
theorem dX10_number_33 : decode cX10_number 33 = .ok (.aload_n 0, 1) := by decide +kernel
theorem dX10_number_34 : decode cX10_number 34 = .ok (.getfield 28, 3) := by decide +kernel
theorem dX10_number_37 : decode cX10_number 37 = .ok (.iload_n 1, 1) := by decide +kernel
theorem dX10_number_38 : decode cX10_number 38 = .ok (.bipush 10, 2) := by decide +kernel
theorem dX10_number_40 : decode cX10_number 40 = .ok (.aload_n 0, 1) := by decide +kernel
theorem dX10_number_41 : decode cX10_number 41 = .ok (.getfield 28, 3) := by decide +kernel
theorem dX10_number_44 : decode cX10_number 44 = .ok (.iload_n 1, 1) := by decide +kernel
theorem dX10_number_45 : decode cX10_number 45 = .ok (.iaload, 1) := by decide +kernel
theorem dX10_number_46 : decode cX10_number 46 = .ok (.imul, 1) := by decide +kernel
theorem dX10_number_47 : decode cX10_number 47 = .ok (.aload_n 0, 1) := by decide +kernel
theorem dX10_number_48 : decode cX10_number 48 = .ok (.getfield 19, 3) := by decide +kernel
theorem dX10_number_51 : decode cX10_number 51 = .ok (.aload_n 0, 1) := by decide +kernel
theorem dX10_number_52 : decode cX10_number 52 = .ok (.getfield 177, 3) := by decide +kernel
theorem dX10_number_55 : decode cX10_number 55 = .ok (.iaload, 1) := by decide +kernel
theorem dX10_number_56 : decode cX10_number 56 = .ok (.iadd, 1) := by decide +kernel
theorem dX10_number_57 : decode cX10_number 57 = .ok (.bipush 48, 2) := by decide +kernel
theorem dX10_number_59 : decode cX10_number 59 = .ok (.isub, 1) := by decide +kernel
theorem dX10_number_60 : decode cX10_number 60 = .ok (.iastore, 1) := by decide +kernel
theorem dX10_number_61 : decode cX10_number 61 = .ok (.aload_n 0, 1) := by decide +kernel
theorem dX10_number_62 : decode cX10_number 62 = .ok (.dup, 1) := by decide +kernel
theorem dX10_number_63 : decode cX10_number 63 = .ok (.getfield 177, 3) := by decide +kernel
theorem dX10_number_66 : decode cX10_number 66 = .ok (.iconst 1, 1) := by decide +kernel
theorem dX10_number_67 : decode cX10_number 67 = .ok (.iadd, 1) := by decide +kernel
theorem dX10_number_68 : decode cX10_number 68 = .ok (.putfield 177, 3) := by decide +kernel
theorem dX10_number_71 : decode cX10_number 71 = .ok (.goto (-59), 3) := by decide +kernel
theorem dX10_number_74 : decode cX10_number 74 = .ok (.aload_n 0, 1) := by decide +kernel
theorem dX10_number_75 : decode cX10_number 75 = .ok (.getfield 177, 3) := by decide +kernel
theorem dX10_number_78 : decode cX10_number 78 = .ok (.iload_n 2, 1) := by decide +kernel
theorem dX10_number_79 : decode cX10_number 79 = .ok (.if_icmp .le 7, 3) := by decide +kernel
theorem dX10_number_82 : decode cX10_number 82 = .ok (.iconst 1, 1) := by decide +kernel
theorem dX10_number_83 : decode cX10_number 83 = .ok (.goto 4, 3) := by decide +kernel
theorem dX10_number_86 : decode cX10_number 86 = .ok (.iconst 0, 1) := by decide +kernel
theorem dX10_number_87 : decode cX10_number 87 = .ok (.ireturn, 1) := by decide +kernel
theorem dX10_numbersOf_0 : decode cX10_numbersOf 0 = .ok (.iload_n 0, 1) := by decide +kernel
theorem dX10_numbersOf_1 : decode cX10_numbersOf 1 = .ok (.bipush 116, 2) := by decide +kernel
theorem dX10_numbersOf_3 : decode cX10_numbersOf 3 = .ok (.if_icmp .ne 7, 3) := by decide +kernel
theorem dX10_numbersOf_6 : decode cX10_numbersOf 6 = .ok (.iconst 3, 1) := by decide +kernel
theorem dX10_numbersOf_7 : decode cX10_numbersOf 7 = .ok (.goto 36, 3) := by decide +kernel
theorem dX10_numbersOf_10 : decode cX10_numbersOf 10 = .ok (.iload_n 0, 1) := by decide +kernel
theorem dX10_numbersOf_11 : decode cX10_numbersOf 11 = .ok (.bipush 119, 2) := by decide +kernel
theorem dX10_numbersOf_13 : decode cX10_numbersOf 13 = .ok (.if_icmp .eq 15, 3) := by decide +kernel
theorem dX10_numbersOf_16 : decode cX10_numbersOf 16 = .ok (.iload_n 0, 1) := by decide +kernel
theorem dX10_numbersOf_17 : decode cX10_numbersOf 17 = .ok (.bipush 99, 2) := by decide +kernel
theorem dX10_numbersOf_19 : decode cX10_numbersOf 19 = .ok (.if_icmp .eq 9, 3) := by decide +kernel
theorem dX10_numbersOf_22 : decode cX10_numbersOf 22 = .ok (.iload_n 0, 1) := by decide +kernel
theorem dX10_numbersOf_23 : decode cX10_numbersOf 23 = .ok (.bipush 103, 2) := by decide +kernel
theorem dX10_numbersOf_25 : decode cX10_numbersOf 25 = .ok (.if_icmp .ne 7, 3) := by decide +kernel
theorem dX10_numbersOf_28 : decode cX10_numbersOf 28 = .ok (.iconst 2, 1) := by decide +kernel
theorem dX10_numbersOf_29 : decode cX10_numbersOf 29 = .ok (.goto 14, 3) := by decide +kernel
theorem dX10_numbersOf_32 : decode cX10_numbersOf 32 = .ok (.iload_n 0, 1) := by decide +kernel
theorem dX10_numbersOf_33 : decode cX10_numbersOf 33 = .ok (.bipush 115, 2) := by decide +kernel
theorem dX10_numbersOf_35 : decode cX10_numbersOf 35 = .ok (.if_icmp .ne 7, 3) := by decide +kernel
theorem dX10_numbersOf_38 : decode cX10_numbersOf 38 = .ok (.iconst 1, 1) := by decide +kernel
theorem dX10_numbersOf_39 : decode cX10_numbersOf 39 = .ok (.goto 4, 3) := by decide +kernel
theorem dX10_numbersOf_42 : decode cX10_numbersOf 42 = .ok (.iconst 0, 1) := by decide +kernel
theorem dX10_numbersOf_43 : decode cX10_numbersOf 43 = .ok (.ireturn, 1) := by decide +kernel
theorem dX10_reads_0 : decode cX10_reads 0 = .ok (.aload_n 0, 1) := by decide +kernel
theorem dX10_reads_1 : decode cX10_reads 1 = .ok (.aload_n 0, 1) := by decide +kernel
theorem dX10_reads_2 : decode cX10_reads 2 = .ok (.bipush 33, 2) := by decide +kernel
theorem dX10_reads_4 : decode cX10_reads 4 = .ok (.bipush 126, 2) := by decide +kernel
theorem dX10_reads_6 : decode cX10_reads 6 = .ok (.invokevirtual 180, 3) := by decide +kernel
theorem dX10_reads_9 : decode cX10_reads 9 = .ok (.ifCond .eq 15, 3) := by decide +kernel
theorem dX10_reads_12 : decode cX10_reads 12 = .ok (.aload_n 0, 1) := by decide +kernel
theorem dX10_reads_13 : decode cX10_reads 13 = .ok (.getfield 19, 3) := by decide +kernel
theorem dX10_reads_16 : decode cX10_reads 16 = .ok (.aload_n 0, 1) := by decide +kernel
theorem dX10_reads_17 : decode cX10_reads 17 = .ok (.getfield 177, 3) := by decide +kernel
theorem dX10_reads_20 : decode cX10_reads 20 = .ok (.iaload, 1) := by decide +kernel
theorem dX10_reads_21 : decode cX10_reads 21 = .ok (.goto 4, 3) := by decide +kernel
theorem dX10_reads_24 : decode cX10_reads 24 = .ok (.iconst 0, 1) := by decide +kernel
theorem dX10_reads_25 : decode cX10_reads 25 = .ok (.putfield 183, 3) := by decide +kernel
theorem dX10_reads_28 : decode cX10_reads 28 = .ok (.aload_n 0, 1) := by decide +kernel
theorem dX10_reads_29 : decode cX10_reads 29 = .ok (.getfield 183, 3) := by decide +kernel
theorem dX10_reads_32 : decode cX10_reads 32 = .ok (.invokestatic 186, 3) := by decide +kernel
theorem dX10_reads_35 : decode cX10_reads 35 = .ok (.istore_n 1, 1) := by decide +kernel
theorem dX10_reads_36 : decode cX10_reads 36 = .ok (.iload_n 1, 1) := by decide +kernel
theorem dX10_reads_37 : decode cX10_reads 37 = .ok (.ifCond .ne 5, 3) := by decide +kernel
theorem dX10_reads_40 : decode cX10_reads 40 = .ok (.iconst 0, 1) := by decide +kernel
theorem dX10_reads_41 : decode cX10_reads 41 = .ok (.ireturn, 1) := by decide +kernel
theorem dX10_reads_42 : decode cX10_reads 42 = .ok (.aload_n 0, 1) := by decide +kernel
theorem dX10_reads_43 : decode cX10_reads 43 = .ok (.dup, 1) := by decide +kernel
theorem dX10_reads_44 : decode cX10_reads 44 = .ok (.getfield 177, 3) := by decide +kernel
theorem dX10_reads_47 : decode cX10_reads 47 = .ok (.iconst 1, 1) := by decide +kernel
theorem dX10_reads_48 : decode cX10_reads 48 = .ok (.iadd, 1) := by decide +kernel
theorem dX10_reads_49 : decode cX10_reads 49 = .ok (.putfield 177, 3) := by decide +kernel
theorem dX10_reads_52 : decode cX10_reads 52 = .ok (.aload_n 0, 1) := by decide +kernel
theorem dX10_reads_53 : decode cX10_reads 53 = .ok (.iconst 0, 1) := by decide +kernel
theorem dX10_reads_54 : decode cX10_reads 54 = .ok (.invokevirtual 189, 3) := by decide +kernel
theorem dX10_reads_57 : decode cX10_reads 57 = .ok (.istore_n 2, 1) := by decide +kernel
theorem dX10_reads_58 : decode cX10_reads 58 = .ok (.iconst 1, 1) := by decide +kernel
theorem dX10_reads_59 : decode cX10_reads 59 = .ok (.istore_n 3, 1) := by decide +kernel
theorem dX10_reads_60 : decode cX10_reads 60 = .ok (.iload_n 3, 1) := by decide +kernel
theorem dX10_reads_61 : decode cX10_reads 61 = .ok (.iload_n 1, 1) := by decide +kernel
theorem dX10_reads_62 : decode cX10_reads 62 = .ok (.if_icmp .ge 36, 3) := by decide +kernel
theorem dX10_reads_65 : decode cX10_reads 65 = .ok (.iload_n 2, 1) := by decide +kernel
theorem dX10_reads_66 : decode cX10_reads 66 = .ok (.ifCond .eq 32, 3) := by decide +kernel
theorem dX10_reads_69 : decode cX10_reads 69 = .ok (.aload_n 0, 1) := by decide +kernel
theorem dX10_reads_70 : decode cX10_reads 70 = .ok (.bipush 44, 2) := by decide +kernel
theorem dX10_reads_72 : decode cX10_reads 72 = .ok (.invokevirtual 192, 3) := by decide +kernel
theorem dX10_reads_75 : decode cX10_reads 75 = .ok (.ifCond .eq 15, 3) := by decide +kernel
theorem dX10_reads_78 : decode cX10_reads 78 = .ok (.aload_n 0, 1) := by decide +kernel
theorem dX10_reads_79 : decode cX10_reads 79 = .ok (.iload_n 3, 1) := by decide +kernel
theorem dX10_reads_80 : decode cX10_reads 80 = .ok (.invokevirtual 189, 3) := by decide +kernel
theorem dX10_reads_83 : decode cX10_reads 83 = .ok (.ifCond .eq 7, 3) := by decide +kernel
theorem dX10_reads_86 : decode cX10_reads 86 = .ok (.iconst 1, 1) := by decide +kernel
theorem dX10_reads_87 : decode cX10_reads 87 = .ok (.goto 4, 3) := by decide +kernel
theorem dX10_reads_90 : decode cX10_reads 90 = .ok (.iconst 0, 1) := by decide +kernel
theorem dX10_reads_91 : decode cX10_reads 91 = .ok (.istore_n 2, 1) := by decide +kernel
theorem dX10_reads_92 : decode cX10_reads 92 = .ok (.iinc 3 1, 3) := by decide +kernel
theorem dX10_reads_95 : decode cX10_reads 95 = .ok (.goto (-35), 3) := by decide +kernel
theorem dX10_reads_98 : decode cX10_reads 98 = .ok (.iload_n 2, 1) := by decide +kernel
theorem dX10_reads_99 : decode cX10_reads 99 = .ok (.ifCond .eq 16, 3) := by decide +kernel
theorem dX10_reads_102 : decode cX10_reads 102 = .ok (.aload_n 0, 1) := by decide +kernel
theorem dX10_reads_103 : decode cX10_reads 103 = .ok (.bipush 59, 2) := by decide +kernel
theorem dX10_reads_105 : decode cX10_reads 105 = .ok (.invokevirtual 192, 3) := by decide +kernel
theorem dX10_reads_108 : decode cX10_reads 108 = .ok (.ifCond .eq 7, 3) := by decide +kernel
theorem dX10_reads_111 : decode cX10_reads 111 = .ok (.iconst 1, 1) := by decide +kernel
theorem dX10_reads_112 : decode cX10_reads 112 = .ok (.goto 4, 3) := by decide +kernel
theorem dX10_reads_115 : decode cX10_reads 115 = .ok (.iconst 0, 1) := by decide +kernel
theorem dX10_reads_116 : decode cX10_reads 116 = .ok (.ireturn, 1) := by decide +kernel
theorem dX10_calls_0 : decode cX10_calls 0 = .ok (.aload_n 0, 1) := by decide +kernel
theorem dX10_calls_1 : decode cX10_calls 1 = .ok (.getfield 183, 3) := by decide +kernel
theorem dX10_calls_4 : decode cX10_calls 4 = .ok (.lookupswitch 112 #[(99, 84), (115, 101), (116, 44), (119, 67)], 44) := by decide +kernel
theorem dX10_calls_48 : decode cX10_calls 48 = .ok (.aload_n 0, 1) := by decide +kernel
theorem dX10_calls_49 : decode cX10_calls 49 = .ok (.aload_n 0, 1) := by decide +kernel
theorem dX10_calls_50 : decode cX10_calls 50 = .ok (.getfield 28, 3) := by decide +kernel
theorem dX10_calls_53 : decode cX10_calls 53 = .ok (.iconst 0, 1) := by decide +kernel
theorem dX10_calls_54 : decode cX10_calls 54 = .ok (.iaload, 1) := by decide +kernel
theorem dX10_calls_55 : decode cX10_calls 55 = .ok (.aload_n 0, 1) := by decide +kernel
theorem dX10_calls_56 : decode cX10_calls 56 = .ok (.getfield 28, 3) := by decide +kernel
theorem dX10_calls_59 : decode cX10_calls 59 = .ok (.iconst 1, 1) := by decide +kernel
theorem dX10_calls_60 : decode cX10_calls 60 = .ok (.iaload, 1) := by decide +kernel
theorem dX10_calls_61 : decode cX10_calls 61 = .ok (.aload_n 0, 1) := by decide +kernel
theorem dX10_calls_62 : decode cX10_calls 62 = .ok (.getfield 28, 3) := by decide +kernel
theorem dX10_calls_65 : decode cX10_calls 65 = .ok (.iconst 2, 1) := by decide +kernel
theorem dX10_calls_66 : decode cX10_calls 66 = .ok (.iaload, 1) := by decide +kernel
theorem dX10_calls_67 : decode cX10_calls 67 = .ok (.invokevirtual 195, 3) := by decide +kernel
theorem dX10_calls_70 : decode cX10_calls 70 = .ok (.ireturn, 1) := by decide +kernel
theorem dX10_calls_71 : decode cX10_calls 71 = .ok (.aload_n 0, 1) := by decide +kernel
theorem dX10_calls_72 : decode cX10_calls 72 = .ok (.aload_n 0, 1) := by decide +kernel
theorem dX10_calls_73 : decode cX10_calls 73 = .ok (.getfield 28, 3) := by decide +kernel
theorem dX10_calls_76 : decode cX10_calls 76 = .ok (.iconst 0, 1) := by decide +kernel
theorem dX10_calls_77 : decode cX10_calls 77 = .ok (.iaload, 1) := by decide +kernel
theorem dX10_calls_78 : decode cX10_calls 78 = .ok (.aload_n 0, 1) := by decide +kernel
theorem dX10_calls_79 : decode cX10_calls 79 = .ok (.getfield 28, 3) := by decide +kernel
theorem dX10_calls_82 : decode cX10_calls 82 = .ok (.iconst 1, 1) := by decide +kernel
theorem dX10_calls_83 : decode cX10_calls 83 = .ok (.iaload, 1) := by decide +kernel
theorem dX10_calls_84 : decode cX10_calls 84 = .ok (.invokevirtual 199, 3) := by decide +kernel
theorem dX10_calls_87 : decode cX10_calls 87 = .ok (.ireturn, 1) := by decide +kernel
theorem dX10_calls_88 : decode cX10_calls 88 = .ok (.aload_n 0, 1) := by decide +kernel
theorem dX10_calls_89 : decode cX10_calls 89 = .ok (.aload_n 0, 1) := by decide +kernel
theorem dX10_calls_90 : decode cX10_calls 90 = .ok (.getfield 28, 3) := by decide +kernel
theorem dX10_calls_93 : decode cX10_calls 93 = .ok (.iconst 0, 1) := by decide +kernel
theorem dX10_calls_94 : decode cX10_calls 94 = .ok (.iaload, 1) := by decide +kernel
theorem dX10_calls_95 : decode cX10_calls 95 = .ok (.aload_n 0, 1) := by decide +kernel
theorem dX10_calls_96 : decode cX10_calls 96 = .ok (.getfield 28, 3) := by decide +kernel
theorem dX10_calls_99 : decode cX10_calls 99 = .ok (.iconst 1, 1) := by decide +kernel
theorem dX10_calls_100 : decode cX10_calls 100 = .ok (.iaload, 1) := by decide +kernel
theorem dX10_calls_101 : decode cX10_calls 101 = .ok (.invokevirtual 202, 3) := by decide +kernel
theorem dX10_calls_104 : decode cX10_calls 104 = .ok (.ireturn, 1) := by decide +kernel
theorem dX10_calls_105 : decode cX10_calls 105 = .ok (.aload_n 0, 1) := by decide +kernel
theorem dX10_calls_106 : decode cX10_calls 106 = .ok (.aload_n 0, 1) := by decide +kernel
theorem dX10_calls_107 : decode cX10_calls 107 = .ok (.getfield 28, 3) := by decide +kernel
theorem dX10_calls_110 : decode cX10_calls 110 = .ok (.iconst 0, 1) := by decide +kernel
theorem dX10_calls_111 : decode cX10_calls 111 = .ok (.iaload, 1) := by decide +kernel
theorem dX10_calls_112 : decode cX10_calls 112 = .ok (.invokevirtual 205, 3) := by decide +kernel
theorem dX10_calls_115 : decode cX10_calls 115 = .ok (.ireturn, 1) := by decide +kernel
theorem dX10_calls_116 : decode cX10_calls 116 = .ok (.aload_n 0, 1) := by decide +kernel
theorem dX10_calls_117 : decode cX10_calls 117 = .ok (.aload_n 0, 1) := by decide +kernel
theorem dX10_calls_118 : decode cX10_calls 118 = .ok (.getfield 28, 3) := by decide +kernel
theorem dX10_calls_121 : decode cX10_calls 121 = .ok (.iconst 0, 1) := by decide +kernel
theorem dX10_calls_122 : decode cX10_calls 122 = .ok (.iaload, 1) := by decide +kernel
theorem dX10_calls_123 : decode cX10_calls 123 = .ok (.aload_n 0, 1) := by decide +kernel
theorem dX10_calls_124 : decode cX10_calls 124 = .ok (.getfield 28, 3) := by decide +kernel
theorem dX10_calls_127 : decode cX10_calls 127 = .ok (.iconst 1, 1) := by decide +kernel
theorem dX10_calls_128 : decode cX10_calls 128 = .ok (.iaload, 1) := by decide +kernel
theorem dX10_calls_129 : decode cX10_calls 129 = .ok (.invokevirtual 208, 3) := by decide +kernel
theorem dX10_calls_132 : decode cX10_calls 132 = .ok (.ireturn, 1) := by decide +kernel
theorem dX10_plays_0 : decode cX10_plays 0 = .ok (.aload_n 0, 1) := by decide +kernel
theorem dX10_plays_1 : decode cX10_plays 1 = .ok (.iconst 1, 1) := by decide +kernel
theorem dX10_plays_2 : decode cX10_plays 2 = .ok (.putfield 31, 3) := by decide +kernel
theorem dX10_plays_5 : decode cX10_plays 5 = .ok (.aload_n 0, 1) := by decide +kernel
theorem dX10_plays_6 : decode cX10_plays 6 = .ok (.iconst 0, 1) := by decide +kernel
theorem dX10_plays_7 : decode cX10_plays 7 = .ok (.putfield 177, 3) := by decide +kernel
theorem dX10_plays_10 : decode cX10_plays 10 = .ok (.aload_n 0, 1) := by decide +kernel
theorem dX10_plays_11 : decode cX10_plays 11 = .ok (.iconst 0, 1) := by decide +kernel
theorem dX10_plays_12 : decode cX10_plays 12 = .ok (.putfield 211, 3) := by decide +kernel
theorem dX10_plays_15 : decode cX10_plays 15 = .ok (.aload_n 0, 1) := by decide +kernel
theorem dX10_plays_16 : decode cX10_plays 16 = .ok (.iconst 0, 1) := by decide +kernel
theorem dX10_plays_17 : decode cX10_plays 17 = .ok (.putfield 214, 3) := by decide +kernel
theorem dX10_plays_20 : decode cX10_plays 20 = .ok (.iconst 1, 1) := by decide +kernel
theorem dX10_plays_21 : decode cX10_plays 21 = .ok (.istore_n 1, 1) := by decide +kernel
theorem dX10_plays_22 : decode cX10_plays 22 = .ok (.aload_n 0, 1) := by decide +kernel
theorem dX10_plays_23 : decode cX10_plays 23 = .ok (.getfield 177, 3) := by decide +kernel
theorem dX10_plays_26 : decode cX10_plays 26 = .ok (.aload_n 0, 1) := by decide +kernel
theorem dX10_plays_27 : decode cX10_plays 27 = .ok (.getfield 174, 3) := by decide +kernel
theorem dX10_plays_30 : decode cX10_plays 30 = .ok (.if_icmp .ge 94, 3) := by decide +kernel
theorem dX10_plays_33 : decode cX10_plays 33 = .ok (.iload_n 1, 1) := by decide +kernel
theorem dX10_plays_34 : decode cX10_plays 34 = .ok (.ifCond .eq 90, 3) := by decide +kernel
theorem dX10_plays_37 : decode cX10_plays 37 = .ok (.aload_n 0, 1) := by decide +kernel
theorem dX10_plays_38 : decode cX10_plays 38 = .ok (.aload_n 0, 1) := by decide +kernel
theorem dX10_plays_39 : decode cX10_plays 39 = .ok (.getfield 177, 3) := by decide +kernel
theorem dX10_plays_42 : decode cX10_plays 42 = .ok (.putfield 211, 3) := by decide +kernel
theorem dX10_plays_45 : decode cX10_plays 45 = .ok (.aload_n 0, 1) := by decide +kernel
theorem dX10_plays_46 : decode cX10_plays 46 = .ok (.invokevirtual 217, 3) := by decide +kernel
theorem dX10_plays_49 : decode cX10_plays 49 = .ok (.istore_n 2, 1) := by decide +kernel
theorem dX10_plays_50 : decode cX10_plays 50 = .ok (.iload_n 2, 1) := by decide +kernel
theorem dX10_plays_51 : decode cX10_plays 51 = .ok (.ifCond .eq 10, 3) := by decide +kernel
theorem dX10_plays_54 : decode cX10_plays 54 = .ok (.aload_n 0, 1) := by decide +kernel
theorem dX10_plays_55 : decode cX10_plays 55 = .ok (.invokevirtual 221, 3) := by decide +kernel
theorem dX10_plays_58 : decode cX10_plays 58 = .ok (.goto 4, 3) := by decide +kernel
theorem dX10_plays_61 : decode cX10_plays 61 = .ok (.iconst 0, 1) := by decide +kernel
theorem dX10_plays_62 : decode cX10_plays 62 = .ok (.istore_n 3, 1) := by decide +kernel
theorem dX10_plays_63 : decode cX10_plays 63 = .ok (.iload_n 2, 1) := by decide +kernel
theorem dX10_plays_64 : decode cX10_plays 64 = .ok (.ifCond .eq 11, 3) := by decide +kernel
theorem dX10_plays_67 : decode cX10_plays 67 = .ok (.iload_n 3, 1) := by decide +kernel
theorem dX10_plays_68 : decode cX10_plays 68 = .ok (.ifCond .lt 7, 3) := by decide +kernel
theorem dX10_plays_71 : decode cX10_plays 71 = .ok (.iconst 1, 1) := by decide +kernel
theorem dX10_plays_72 : decode cX10_plays 72 = .ok (.goto 4, 3) := by decide +kernel
theorem dX10_plays_75 : decode cX10_plays 75 = .ok (.iconst 0, 1) := by decide +kernel
theorem dX10_plays_76 : decode cX10_plays 76 = .ok (.istore_n 1, 1) := by decide +kernel
theorem dX10_plays_77 : decode cX10_plays 77 = .ok (.aload_n 0, 1) := by decide +kernel
theorem dX10_plays_78 : decode cX10_plays 78 = .ok (.iload_n 2, 1) := by decide +kernel
theorem dX10_plays_79 : decode cX10_plays 79 = .ok (.ifCond .eq 7, 3) := by decide +kernel
theorem dX10_plays_82 : decode cX10_plays 82 = .ok (.iconst 2, 1) := by decide +kernel
theorem dX10_plays_83 : decode cX10_plays 83 = .ok (.goto 4, 3) := by decide +kernel
theorem dX10_plays_86 : decode cX10_plays 86 = .ok (.iconst 1, 1) := by decide +kernel
theorem dX10_plays_87 : decode cX10_plays 87 = .ok (.putfield 224, 3) := by decide +kernel
theorem dX10_plays_90 : decode cX10_plays 90 = .ok (.aload_n 0, 1) := by decide +kernel
theorem dX10_plays_91 : decode cX10_plays 91 = .ok (.iload_n 2, 1) := by decide +kernel
theorem dX10_plays_92 : decode cX10_plays 92 = .ok (.ifCond .eq 7, 3) := by decide +kernel
theorem dX10_plays_95 : decode cX10_plays 95 = .ok (.iload_n 3, 1) := by decide +kernel
theorem dX10_plays_96 : decode cX10_plays 96 = .ok (.goto 12, 3) := by decide +kernel
theorem dX10_plays_99 : decode cX10_plays 99 = .ok (.aload_n 0, 1) := by decide +kernel
theorem dX10_plays_100 : decode cX10_plays 100 = .ok (.getfield 177, 3) := by decide +kernel
theorem dX10_plays_103 : decode cX10_plays 103 = .ok (.aload_n 0, 1) := by decide +kernel
theorem dX10_plays_104 : decode cX10_plays 104 = .ok (.getfield 211, 3) := by decide +kernel
theorem dX10_plays_107 : decode cX10_plays 107 = .ok (.isub, 1) := by decide +kernel
theorem dX10_plays_108 : decode cX10_plays 108 = .ok (.putfield 227, 3) := by decide +kernel
theorem dX10_plays_111 : decode cX10_plays 111 = .ok (.aload_n 0, 1) := by decide +kernel
theorem dX10_plays_112 : decode cX10_plays 112 = .ok (.dup, 1) := by decide +kernel
theorem dX10_plays_113 : decode cX10_plays 113 = .ok (.getfield 214, 3) := by decide +kernel
theorem dX10_plays_116 : decode cX10_plays 116 = .ok (.iconst 1, 1) := by decide +kernel
theorem dX10_plays_117 : decode cX10_plays 117 = .ok (.iadd, 1) := by decide +kernel
theorem dX10_plays_118 : decode cX10_plays 118 = .ok (.putfield 214, 3) := by decide +kernel
theorem dX10_plays_121 : decode cX10_plays 121 = .ok (.goto (-99), 3) := by decide +kernel
theorem dX10_plays_124 : decode cX10_plays 124 = .ok (.aload_n 0, 1) := by decide +kernel
theorem dX10_plays_125 : decode cX10_plays 125 = .ok (.iconst 0, 1) := by decide +kernel
theorem dX10_plays_126 : decode cX10_plays 126 = .ok (.putfield 31, 3) := by decide +kernel
theorem dX10_plays_129 : decode cX10_plays 129 = .ok (.iload_n 1, 1) := by decide +kernel
theorem dX10_plays_130 : decode cX10_plays 130 = .ok (.ireturn, 1) := by decide +kernel
theorem dX10_fault_0 : decode cX10_fault 0 = .ok (.iload_n 1, 1) := by decide +kernel
theorem dX10_fault_1 : decode cX10_fault 1 = .ok (.iconst 0, 1) := by decide +kernel
theorem dX10_fault_2 : decode cX10_fault 2 = .ok (.iconst 2, 1) := by decide +kernel
theorem dX10_fault_3 : decode cX10_fault 3 = .ok (.invokestatic 39, 3) := by decide +kernel
theorem dX10_fault_6 : decode cX10_fault 6 = .ok (.ifCond .ne 6, 3) := by decide +kernel
theorem dX10_fault_9 : decode cX10_fault 9 = .ok (.ldc 50, 2) := by decide +kernel
theorem dX10_fault_11 : decode cX10_fault 11 = .ok (.ireturn, 1) := by decide +kernel
theorem dX10_fault_12 : decode cX10_fault 12 = .ok (.aload_n 0, 1) := by decide +kernel
theorem dX10_fault_13 : decode cX10_fault 13 = .ok (.getfield 7, 3) := by decide +kernel
theorem dX10_fault_16 : decode cX10_fault 16 = .ok (.aload_n 0, 1) := by decide +kernel
theorem dX10_fault_17 : decode cX10_fault 17 = .ok (.getfield 16, 3) := by decide +kernel
theorem dX10_fault_20 : decode cX10_fault 20 = .ok (.invokestatic 230, 3) := by decide +kernel
theorem dX10_fault_23 : decode cX10_fault 23 = .ok (.aload_n 0, 1) := by decide +kernel
theorem dX10_fault_24 : decode cX10_fault 24 = .ok (.invokevirtual 234, 3) := by decide +kernel
theorem dX10_fault_27 : decode cX10_fault 27 = .ok (.istore_n 2, 1) := by decide +kernel
theorem dX10_fault_28 : decode cX10_fault 28 = .ok (.aload_n 0, 1) := by decide +kernel
theorem dX10_fault_29 : decode cX10_fault 29 = .ok (.getfield 16, 3) := by decide +kernel
theorem dX10_fault_32 : decode cX10_fault 32 = .ok (.aload_n 0, 1) := by decide +kernel
theorem dX10_fault_33 : decode cX10_fault 33 = .ok (.getfield 7, 3) := by decide +kernel
theorem dX10_fault_36 : decode cX10_fault 36 = .ok (.invokestatic 230, 3) := by decide +kernel
theorem dX10_fault_39 : decode cX10_fault 39 = .ok (.iload_n 2, 1) := by decide +kernel
theorem dX10_fault_40 : decode cX10_fault 40 = .ok (.ifCond .eq 8, 3) := by decide +kernel
theorem dX10_fault_43 : decode cX10_fault 43 = .ok (.ldc 110, 2) := by decide +kernel
theorem dX10_fault_45 : decode cX10_fault 45 = .ok (.goto 30, 3) := by decide +kernel
theorem dX10_fault_48 : decode cX10_fault 48 = .ok (.iload_n 1, 1) := by decide +kernel
theorem dX10_fault_49 : decode cX10_fault 49 = .ok (.ifCond .ne 10, 3) := by decide +kernel
theorem dX10_fault_52 : decode cX10_fault 52 = .ok (.aload_n 0, 1) := by decide +kernel
theorem dX10_fault_53 : decode cX10_fault 53 = .ok (.getfield 211, 3) := by decide +kernel
theorem dX10_fault_56 : decode cX10_fault 56 = .ok (.goto 19, 3) := by decide +kernel
theorem dX10_fault_59 : decode cX10_fault 59 = .ok (.iload_n 1, 1) := by decide +kernel
theorem dX10_fault_60 : decode cX10_fault 60 = .ok (.iconst 1, 1) := by decide +kernel
theorem dX10_fault_61 : decode cX10_fault 61 = .ok (.if_icmp .ne 10, 3) := by decide +kernel
theorem dX10_fault_64 : decode cX10_fault 64 = .ok (.aload_n 0, 1) := by decide +kernel
theorem dX10_fault_65 : decode cX10_fault 65 = .ok (.getfield 224, 3) := by decide +kernel
theorem dX10_fault_68 : decode cX10_fault 68 = .ok (.goto 7, 3) := by decide +kernel
theorem dX10_fault_71 : decode cX10_fault 71 = .ok (.aload_n 0, 1) := by decide +kernel
theorem dX10_fault_72 : decode cX10_fault 72 = .ok (.getfield 227, 3) := by decide +kernel
theorem dX10_fault_75 : decode cX10_fault 75 = .ok (.ireturn, 1) := by decide +kernel
theorem dX10_play_0 : decode cX10_play 0 = .ok (.aload_n 0, 1) := by decide +kernel
theorem dX10_play_1 : decode cX10_play 1 = .ok (.getfield 7, 3) := by decide +kernel
theorem dX10_play_4 : decode cX10_play 4 = .ok (.aload_n 0, 1) := by decide +kernel
theorem dX10_play_5 : decode cX10_play 5 = .ok (.getfield 16, 3) := by decide +kernel
theorem dX10_play_8 : decode cX10_play 8 = .ok (.invokestatic 230, 3) := by decide +kernel
theorem dX10_play_11 : decode cX10_play 11 = .ok (.aload_n 0, 1) := by decide +kernel
theorem dX10_play_12 : decode cX10_play 12 = .ok (.invokevirtual 234, 3) := by decide +kernel
theorem dX10_play_15 : decode cX10_play 15 = .ok (.istore_n 1, 1) := by decide +kernel
theorem dX10_play_16 : decode cX10_play 16 = .ok (.aload_n 0, 1) := by decide +kernel
theorem dX10_play_17 : decode cX10_play 17 = .ok (.getfield 16, 3) := by decide +kernel
theorem dX10_play_20 : decode cX10_play 20 = .ok (.aload_n 0, 1) := by decide +kernel
theorem dX10_play_21 : decode cX10_play 21 = .ok (.getfield 7, 3) := by decide +kernel
theorem dX10_play_24 : decode cX10_play 24 = .ok (.invokestatic 230, 3) := by decide +kernel
theorem dX10_play_27 : decode cX10_play 27 = .ok (.iload_n 1, 1) := by decide +kernel
theorem dX10_play_28 : decode cX10_play 28 = .ok (.ifCond .ne 6, 3) := by decide +kernel
theorem dX10_play_31 : decode cX10_play 31 = .ok (.ldc 80, 2) := by decide +kernel
theorem dX10_play_33 : decode cX10_play 33 = .ok (.ireturn, 1) := by decide +kernel
theorem dX10_play_34 : decode cX10_play 34 = .ok (.aload_n 0, 1) := by decide +kernel
theorem dX10_play_35 : decode cX10_play 35 = .ok (.invokevirtual 52, 3) := by decide +kernel
theorem dX10_play_38 : decode cX10_play 38 = .ok (.aload_n 0, 1) := by decide +kernel
theorem dX10_play_39 : decode cX10_play 39 = .ok (.invokevirtual 234, 3) := by decide +kernel
theorem dX10_play_42 : decode cX10_play 42 = .ok (.ifCond .eq 10, 3) := by decide +kernel
theorem dX10_play_45 : decode cX10_play 45 = .ok (.aload_n 0, 1) := by decide +kernel
theorem dX10_play_46 : decode cX10_play 46 = .ok (.getfield 214, 3) := by decide +kernel
theorem dX10_play_49 : decode cX10_play 49 = .ok (.goto 5, 3) := by decide +kernel
theorem dX10_play_52 : decode cX10_play 52 = .ok (.ldc 110, 2) := by decide +kernel
theorem dX10_play_54 : decode cX10_play 54 = .ok (.ireturn, 1) := by decide +kernel
theorem dJxf58ca_isNaN_12338_0 : decode cJxf58ca_isNaN_12338 0 = .ok (.fload_n 0, 1) := by decide +kernel
theorem dJxf58ca_isNaN_12338_1 : decode cJxf58ca_isNaN_12338 1 = .ok (.fload_n 0, 1) := by decide +kernel
theorem dJxf58ca_isNaN_12338_2 : decode cJxf58ca_isNaN_12338 2 = .ok (.fcmp .l, 1) := by decide +kernel
theorem dJxf58ca_isNaN_12338_3 : decode cJxf58ca_isNaN_12338 3 = .ok (.ifCond .eq 7, 3) := by decide +kernel
theorem dJxf58ca_isNaN_12338_6 : decode cJxf58ca_isNaN_12338 6 = .ok (.iconst 1, 1) := by decide +kernel
theorem dJxf58ca_isNaN_12338_7 : decode cJxf58ca_isNaN_12338 7 = .ok (.goto 4, 3) := by decide +kernel
theorem dJxf58ca_isNaN_12338_10 : decode cJxf58ca_isNaN_12338 10 = .ok (.iconst 0, 1) := by decide +kernel
theorem dJxf58ca_isNaN_12338_11 : decode cJxf58ca_isNaN_12338 11 = .ok (.ireturn, 1) := by decide +kernel
theorem dJxf58ca_floatToIntBits_5c35a_0 : decode cJxf58ca_floatToIntBits_5c35a 0 = .ok (.fload_n 0, 1) := by decide +kernel
theorem dJxf58ca_floatToIntBits_5c35a_1 : decode cJxf58ca_floatToIntBits_5c35a 1 = .ok (.invokestatic 59, 3) := by decide +kernel
theorem dJxf58ca_floatToIntBits_5c35a_4 : decode cJxf58ca_floatToIntBits_5c35a 4 = .ok (.ifCond .ne 8, 3) := by decide +kernel
theorem dJxf58ca_floatToIntBits_5c35a_7 : decode cJxf58ca_floatToIntBits_5c35a 7 = .ok (.fload_n 0, 1) := by decide +kernel
theorem dJxf58ca_floatToIntBits_5c35a_8 : decode cJxf58ca_floatToIntBits_5c35a 8 = .ok (.invokestatic 74, 3) := by decide +kernel
theorem dJxf58ca_floatToIntBits_5c35a_11 : decode cJxf58ca_floatToIntBits_5c35a 11 = .ok (.ireturn, 1) := by decide +kernel
theorem dJxf58ca_floatToIntBits_5c35a_12 : decode cJxf58ca_floatToIntBits_5c35a 12 = .ok (.ldc 77, 2) := by decide +kernel
theorem dJxf58ca_floatToIntBits_5c35a_14 : decode cJxf58ca_floatToIntBits_5c35a 14 = .ok (.ireturn, 1) := by decide +kernel
theorem dJ6_bitCount_0f7a4_0 : decode cJ6_bitCount_0f7a4 0 = .ok (.iload_n 0, 1) := by decide +kernel
theorem dJ6_bitCount_0f7a4_1 : decode cJ6_bitCount_0f7a4 1 = .ok (.iload_n 0, 1) := by decide +kernel
theorem dJ6_bitCount_0f7a4_2 : decode cJ6_bitCount_0f7a4 2 = .ok (.iconst 1, 1) := by decide +kernel
theorem dJ6_bitCount_0f7a4_3 : decode cJ6_bitCount_0f7a4 3 = .ok (.iushr, 1) := by decide +kernel
theorem dJ6_bitCount_0f7a4_4 : decode cJ6_bitCount_0f7a4 4 = .ok (.ldc_w 265, 3) := by decide +kernel
theorem dJ6_bitCount_0f7a4_7 : decode cJ6_bitCount_0f7a4 7 = .ok (.iand, 1) := by decide +kernel
theorem dJ6_bitCount_0f7a4_8 : decode cJ6_bitCount_0f7a4 8 = .ok (.isub, 1) := by decide +kernel
theorem dJ6_bitCount_0f7a4_9 : decode cJ6_bitCount_0f7a4 9 = .ok (.istore_n 0, 1) := by decide +kernel
theorem dJ6_bitCount_0f7a4_10 : decode cJ6_bitCount_0f7a4 10 = .ok (.iload_n 0, 1) := by decide +kernel
theorem dJ6_bitCount_0f7a4_11 : decode cJ6_bitCount_0f7a4 11 = .ok (.ldc_w 266, 3) := by decide +kernel
theorem dJ6_bitCount_0f7a4_14 : decode cJ6_bitCount_0f7a4 14 = .ok (.iand, 1) := by decide +kernel
theorem dJ6_bitCount_0f7a4_15 : decode cJ6_bitCount_0f7a4 15 = .ok (.iload_n 0, 1) := by decide +kernel
theorem dJ6_bitCount_0f7a4_16 : decode cJ6_bitCount_0f7a4 16 = .ok (.iconst 2, 1) := by decide +kernel
theorem dJ6_bitCount_0f7a4_17 : decode cJ6_bitCount_0f7a4 17 = .ok (.iushr, 1) := by decide +kernel
theorem dJ6_bitCount_0f7a4_18 : decode cJ6_bitCount_0f7a4 18 = .ok (.ldc_w 266, 3) := by decide +kernel
theorem dJ6_bitCount_0f7a4_21 : decode cJ6_bitCount_0f7a4 21 = .ok (.iand, 1) := by decide +kernel
theorem dJ6_bitCount_0f7a4_22 : decode cJ6_bitCount_0f7a4 22 = .ok (.iadd, 1) := by decide +kernel
theorem dJ6_bitCount_0f7a4_23 : decode cJ6_bitCount_0f7a4 23 = .ok (.istore_n 0, 1) := by decide +kernel
theorem dJ6_bitCount_0f7a4_24 : decode cJ6_bitCount_0f7a4 24 = .ok (.iload_n 0, 1) := by decide +kernel
theorem dJ6_bitCount_0f7a4_25 : decode cJ6_bitCount_0f7a4 25 = .ok (.iload_n 0, 1) := by decide +kernel
theorem dJ6_bitCount_0f7a4_26 : decode cJ6_bitCount_0f7a4 26 = .ok (.iconst 4, 1) := by decide +kernel
theorem dJ6_bitCount_0f7a4_27 : decode cJ6_bitCount_0f7a4 27 = .ok (.iushr, 1) := by decide +kernel
theorem dJ6_bitCount_0f7a4_28 : decode cJ6_bitCount_0f7a4 28 = .ok (.iadd, 1) := by decide +kernel
theorem dJ6_bitCount_0f7a4_29 : decode cJ6_bitCount_0f7a4 29 = .ok (.ldc_w 267, 3) := by decide +kernel
theorem dJ6_bitCount_0f7a4_32 : decode cJ6_bitCount_0f7a4 32 = .ok (.iand, 1) := by decide +kernel
theorem dJ6_bitCount_0f7a4_33 : decode cJ6_bitCount_0f7a4 33 = .ok (.istore_n 0, 1) := by decide +kernel
theorem dJ6_bitCount_0f7a4_34 : decode cJ6_bitCount_0f7a4 34 = .ok (.iload_n 0, 1) := by decide +kernel
theorem dJ6_bitCount_0f7a4_35 : decode cJ6_bitCount_0f7a4 35 = .ok (.iload_n 0, 1) := by decide +kernel
theorem dJ6_bitCount_0f7a4_36 : decode cJ6_bitCount_0f7a4 36 = .ok (.bipush 8, 2) := by decide +kernel
theorem dJ6_bitCount_0f7a4_38 : decode cJ6_bitCount_0f7a4 38 = .ok (.iushr, 1) := by decide +kernel
theorem dJ6_bitCount_0f7a4_39 : decode cJ6_bitCount_0f7a4 39 = .ok (.iadd, 1) := by decide +kernel
theorem dJ6_bitCount_0f7a4_40 : decode cJ6_bitCount_0f7a4 40 = .ok (.istore_n 0, 1) := by decide +kernel
theorem dJ6_bitCount_0f7a4_41 : decode cJ6_bitCount_0f7a4 41 = .ok (.iload_n 0, 1) := by decide +kernel
theorem dJ6_bitCount_0f7a4_42 : decode cJ6_bitCount_0f7a4 42 = .ok (.iload_n 0, 1) := by decide +kernel
theorem dJ6_bitCount_0f7a4_43 : decode cJ6_bitCount_0f7a4 43 = .ok (.bipush 16, 2) := by decide +kernel
theorem dJ6_bitCount_0f7a4_45 : decode cJ6_bitCount_0f7a4 45 = .ok (.iushr, 1) := by decide +kernel
theorem dJ6_bitCount_0f7a4_46 : decode cJ6_bitCount_0f7a4 46 = .ok (.iadd, 1) := by decide +kernel
theorem dJ6_bitCount_0f7a4_47 : decode cJ6_bitCount_0f7a4 47 = .ok (.istore_n 0, 1) := by decide +kernel
theorem dJ6_bitCount_0f7a4_48 : decode cJ6_bitCount_0f7a4 48 = .ok (.iload_n 0, 1) := by decide +kernel
theorem dJ6_bitCount_0f7a4_49 : decode cJ6_bitCount_0f7a4 49 = .ok (.bipush 63, 2) := by decide +kernel
theorem dJ6_bitCount_0f7a4_51 : decode cJ6_bitCount_0f7a4 51 = .ok (.iand, 1) := by decide +kernel
theorem dJ6_bitCount_0f7a4_52 : decode cJ6_bitCount_0f7a4 52 = .ok (.ireturn, 1) := by decide +kernel
theorem dJ9_floorMod_7cf53_0 : decode cJ9_floorMod_7cf53 0 = .ok (.iload_n 0, 1) := by decide +kernel
theorem dJ9_floorMod_7cf53_1 : decode cJ9_floorMod_7cf53 1 = .ok (.iload_n 1, 1) := by decide +kernel
theorem dJ9_floorMod_7cf53_2 : decode cJ9_floorMod_7cf53 2 = .ok (.irem, 1) := by decide +kernel
theorem dJ9_floorMod_7cf53_3 : decode cJ9_floorMod_7cf53 3 = .ok (.istore_n 2, 1) := by decide +kernel
theorem dJ9_floorMod_7cf53_4 : decode cJ9_floorMod_7cf53 4 = .ok (.iload_n 0, 1) := by decide +kernel
theorem dJ9_floorMod_7cf53_5 : decode cJ9_floorMod_7cf53 5 = .ok (.iload_n 1, 1) := by decide +kernel
theorem dJ9_floorMod_7cf53_6 : decode cJ9_floorMod_7cf53 6 = .ok (.ixor, 1) := by decide +kernel
theorem dJ9_floorMod_7cf53_7 : decode cJ9_floorMod_7cf53 7 = .ok (.ifCond .ge 11, 3) := by decide +kernel
theorem dJ9_floorMod_7cf53_10 : decode cJ9_floorMod_7cf53 10 = .ok (.iload_n 2, 1) := by decide +kernel
theorem dJ9_floorMod_7cf53_11 : decode cJ9_floorMod_7cf53 11 = .ok (.ifCond .eq 7, 3) := by decide +kernel
theorem dJ9_floorMod_7cf53_14 : decode cJ9_floorMod_7cf53 14 = .ok (.iload_n 2, 1) := by decide +kernel
theorem dJ9_floorMod_7cf53_15 : decode cJ9_floorMod_7cf53 15 = .ok (.iload_n 1, 1) := by decide +kernel
theorem dJ9_floorMod_7cf53_16 : decode cJ9_floorMod_7cf53 16 = .ok (.iadd, 1) := by decide +kernel
theorem dJ9_floorMod_7cf53_17 : decode cJ9_floorMod_7cf53 17 = .ok (.ireturn, 1) := by decide +kernel
theorem dJ9_floorMod_7cf53_18 : decode cJ9_floorMod_7cf53 18 = .ok (.iload_n 2, 1) := by decide +kernel
theorem dJ9_floorMod_7cf53_19 : decode cJ9_floorMod_7cf53 19 = .ok (.ireturn, 1) := by decide +kernel
theorem dJ9_abs_0f7a4_0 : decode cJ9_abs_0f7a4 0 = .ok (.iload_n 0, 1) := by decide +kernel
theorem dJ9_abs_0f7a4_1 : decode cJ9_abs_0f7a4 1 = .ok (.ifCond .ge 8, 3) := by decide +kernel
theorem dJ9_abs_0f7a4_4 : decode cJ9_abs_0f7a4 4 = .ok (.iload_n 0, 1) := by decide +kernel
theorem dJ9_abs_0f7a4_5 : decode cJ9_abs_0f7a4 5 = .ok (.ineg, 1) := by decide +kernel
theorem dJ9_abs_0f7a4_6 : decode cJ9_abs_0f7a4 6 = .ok (.goto 4, 3) := by decide +kernel
theorem dJ9_abs_0f7a4_9 : decode cJ9_abs_0f7a4 9 = .ok (.iload_n 0, 1) := by decide +kernel
theorem dJ9_abs_0f7a4_10 : decode cJ9_abs_0f7a4 10 = .ok (.ireturn, 1) := by decide +kernel
theorem dJ9_max_7cf53_0 : decode cJ9_max_7cf53 0 = .ok (.iload_n 0, 1) := by decide +kernel
theorem dJ9_max_7cf53_1 : decode cJ9_max_7cf53 1 = .ok (.iload_n 1, 1) := by decide +kernel
theorem dJ9_max_7cf53_2 : decode cJ9_max_7cf53 2 = .ok (.if_icmp .lt 7, 3) := by decide +kernel
theorem dJ9_max_7cf53_5 : decode cJ9_max_7cf53 5 = .ok (.iload_n 0, 1) := by decide +kernel
theorem dJ9_max_7cf53_6 : decode cJ9_max_7cf53 6 = .ok (.goto 4, 3) := by decide +kernel
theorem dJ9_max_7cf53_9 : decode cJ9_max_7cf53 9 = .ok (.iload_n 1, 1) := by decide +kernel
theorem dJ9_max_7cf53_10 : decode cJ9_max_7cf53 10 = .ok (.ireturn, 1) := by decide +kernel
theorem dJ9_min_7cf53_0 : decode cJ9_min_7cf53 0 = .ok (.iload_n 0, 1) := by decide +kernel
theorem dJ9_min_7cf53_1 : decode cJ9_min_7cf53 1 = .ok (.iload_n 1, 1) := by decide +kernel
theorem dJ9_min_7cf53_2 : decode cJ9_min_7cf53 2 = .ok (.if_icmp .gt 7, 3) := by decide +kernel
theorem dJ9_min_7cf53_5 : decode cJ9_min_7cf53 5 = .ok (.iload_n 0, 1) := by decide +kernel
theorem dJ9_min_7cf53_6 : decode cJ9_min_7cf53 6 = .ok (.goto 4, 3) := by decide +kernel
theorem dJ9_min_7cf53_9 : decode cJ9_min_7cf53 9 = .ok (.iload_n 1, 1) := by decide +kernel
theorem dJ9_min_7cf53_10 : decode cJ9_min_7cf53 10 = .ok (.ireturn, 1) := by decide +kernel
theorem dJ7_fill_53178_0 : decode cJ7_fill_53178 0 = .ok (.iconst 0, 1) := by decide +kernel
theorem dJ7_fill_53178_1 : decode cJ7_fill_53178 1 = .ok (.istore_n 2, 1) := by decide +kernel
theorem dJ7_fill_53178_2 : decode cJ7_fill_53178 2 = .ok (.aload_n 0, 1) := by decide +kernel
theorem dJ7_fill_53178_3 : decode cJ7_fill_53178 3 = .ok (.arraylength, 1) := by decide +kernel
theorem dJ7_fill_53178_4 : decode cJ7_fill_53178 4 = .ok (.istore_n 3, 1) := by decide +kernel
theorem dJ7_fill_53178_5 : decode cJ7_fill_53178 5 = .ok (.iload_n 2, 1) := by decide +kernel
theorem dJ7_fill_53178_6 : decode cJ7_fill_53178 6 = .ok (.iload_n 3, 1) := by decide +kernel
theorem dJ7_fill_53178_7 : decode cJ7_fill_53178 7 = .ok (.if_icmp .ge 13, 3) := by decide +kernel
theorem dJ7_fill_53178_10 : decode cJ7_fill_53178 10 = .ok (.aload_n 0, 1) := by decide +kernel
theorem dJ7_fill_53178_11 : decode cJ7_fill_53178 11 = .ok (.iload_n 2, 1) := by decide +kernel
theorem dJ7_fill_53178_12 : decode cJ7_fill_53178 12 = .ok (.iload_n 1, 1) := by decide +kernel
theorem dJ7_fill_53178_13 : decode cJ7_fill_53178 13 = .ok (.iastore, 1) := by decide +kernel
theorem dJ7_fill_53178_14 : decode cJ7_fill_53178 14 = .ok (.iinc 2 1, 3) := by decide +kernel
theorem dJ7_fill_53178_17 : decode cJ7_fill_53178 17 = .ok (.goto (-12), 3) := by decide +kernel
theorem dJ7_fill_53178_20 : decode cJ7_fill_53178 20 = .ok (.return_, 1) := by decide +kernel
theorem dL_law_0 : decode cL_law 0 = .ok (.new 7, 3) := by decide +kernel
theorem dL_law_3 : decode cL_law 3 = .ok (.dup, 1) := by decide +kernel
theorem dL_law_4 : decode cL_law 4 = .ok (.invokespecial 9, 3) := by decide +kernel
theorem dL_law_7 : decode cL_law 7 = .ok (.astore_n 1, 1) := by decide +kernel
theorem dL_law_8 : decode cL_law 8 = .ok (.new 10, 3) := by decide +kernel
theorem dL_law_11 : decode cL_law 11 = .ok (.dup, 1) := by decide +kernel
theorem dL_law_12 : decode cL_law 12 = .ok (.invokespecial 12, 3) := by decide +kernel
theorem dL_law_15 : decode cL_law 15 = .ok (.astore_n 2, 1) := by decide +kernel
theorem dL_law_16 : decode cL_law 16 = .ok (.iconst 0, 1) := by decide +kernel
theorem dL_law_17 : decode cL_law 17 = .ok (.istore_n 3, 1) := by decide +kernel
theorem dL_law_18 : decode cL_law 18 = .ok (.iload_n 3, 1) := by decide +kernel
theorem dL_law_19 : decode cL_law 19 = .ok (.aload_n 0, 1) := by decide +kernel
theorem dL_law_20 : decode cL_law 20 = .ok (.arraylength, 1) := by decide +kernel
theorem dL_law_21 : decode cL_law 21 = .ok (.iconst 4, 1) := by decide +kernel
theorem dL_law_22 : decode cL_law 22 = .ok (.isub, 1) := by decide +kernel
theorem dL_law_23 : decode cL_law 23 = .ok (.if_icmp .gt 900, 3) := by decide +kernel
theorem dL_law_26 : decode cL_law 26 = .ok (.aload_n 0, 1) := by decide +kernel
theorem dL_law_27 : decode cL_law 27 = .ok (.iload_n 3, 1) := by decide +kernel
theorem dL_law_28 : decode cL_law 28 = .ok (.iaload, 1) := by decide +kernel
theorem dL_law_29 : decode cL_law 29 = .ok (.bipush 31, 2) := by decide +kernel
theorem dL_law_31 : decode cL_law 31 = .ok (.iand, 1) := by decide +kernel
theorem dL_law_32 : decode cL_law 32 = .ok (.tableswitch 885 0 26 #[124, 167, 200, 243, 266, 299, 322, 345, 378, 411, 444, 477, 520, 553, 586, 619, 652, 675, 708, 731, 754, 777, 800, 813, 836, 849, 872], 124) := by decide +kernel
theorem dL_law_156 : decode cL_law 156 = .ok (.aload_n 1, 1) := by decide +kernel
theorem dL_law_157 : decode cL_law 157 = .ok (.aload_n 0, 1) := by decide +kernel
theorem dL_law_158 : decode cL_law 158 = .ok (.iload_n 3, 1) := by decide +kernel
theorem dL_law_159 : decode cL_law 159 = .ok (.iconst 1, 1) := by decide +kernel
theorem dL_law_160 : decode cL_law 160 = .ok (.iadd, 1) := by decide +kernel
theorem dL_law_161 : decode cL_law 161 = .ok (.iaload, 1) := by decide +kernel
theorem dL_law_162 : decode cL_law 162 = .ok (.aload_n 0, 1) := by decide +kernel
theorem dL_law_163 : decode cL_law 163 = .ok (.iload_n 3, 1) := by decide +kernel
theorem dL_law_164 : decode cL_law 164 = .ok (.iconst 2, 1) := by decide +kernel
theorem dL_law_165 : decode cL_law 165 = .ok (.iadd, 1) := by decide +kernel
theorem dL_law_166 : decode cL_law 166 = .ok (.iaload, 1) := by decide +kernel
theorem dL_law_167 : decode cL_law 167 = .ok (.aload_n 0, 1) := by decide +kernel
theorem dL_law_168 : decode cL_law 168 = .ok (.iload_n 3, 1) := by decide +kernel
theorem dL_law_169 : decode cL_law 169 = .ok (.iconst 3, 1) := by decide +kernel
theorem dL_law_170 : decode cL_law 170 = .ok (.iadd, 1) := by decide +kernel
theorem dL_law_171 : decode cL_law 171 = .ok (.iaload, 1) := by decide +kernel
theorem dL_law_172 : decode cL_law 172 = .ok (.invokevirtual 13, 3) := by decide +kernel
theorem dL_law_175 : decode cL_law 175 = .ok (.aload_n 2, 1) := by decide +kernel
theorem dL_law_176 : decode cL_law 176 = .ok (.aload_n 0, 1) := by decide +kernel
theorem dL_law_177 : decode cL_law 177 = .ok (.iload_n 3, 1) := by decide +kernel
theorem dL_law_178 : decode cL_law 178 = .ok (.iconst 1, 1) := by decide +kernel
theorem dL_law_179 : decode cL_law 179 = .ok (.iadd, 1) := by decide +kernel
theorem dL_law_180 : decode cL_law 180 = .ok (.iaload, 1) := by decide +kernel
theorem dL_law_181 : decode cL_law 181 = .ok (.aload_n 0, 1) := by decide +kernel
theorem dL_law_182 : decode cL_law 182 = .ok (.iload_n 3, 1) := by decide +kernel
theorem dL_law_183 : decode cL_law 183 = .ok (.iconst 2, 1) := by decide +kernel
theorem dL_law_184 : decode cL_law 184 = .ok (.iadd, 1) := by decide +kernel
theorem dL_law_185 : decode cL_law 185 = .ok (.iaload, 1) := by decide +kernel
theorem dL_law_186 : decode cL_law 186 = .ok (.aload_n 0, 1) := by decide +kernel
theorem dL_law_187 : decode cL_law 187 = .ok (.iload_n 3, 1) := by decide +kernel
theorem dL_law_188 : decode cL_law 188 = .ok (.iconst 3, 1) := by decide +kernel
theorem dL_law_189 : decode cL_law 189 = .ok (.iadd, 1) := by decide +kernel
theorem dL_law_190 : decode cL_law 190 = .ok (.iaload, 1) := by decide +kernel
theorem dL_law_191 : decode cL_law 191 = .ok (.invokevirtual 17, 3) := by decide +kernel
theorem dL_law_194 : decode cL_law 194 = .ok (.if_icmp .eq 723, 3) := by decide +kernel
theorem dL_law_197 : decode cL_law 197 = .ok (.iconst 0, 1) := by decide +kernel
theorem dL_law_198 : decode cL_law 198 = .ok (.ireturn, 1) := by decide +kernel
theorem dL_law_199 : decode cL_law 199 = .ok (.aload_n 1, 1) := by decide +kernel
theorem dL_law_200 : decode cL_law 200 = .ok (.aload_n 0, 1) := by decide +kernel
theorem dL_law_201 : decode cL_law 201 = .ok (.iload_n 3, 1) := by decide +kernel
theorem dL_law_202 : decode cL_law 202 = .ok (.iconst 1, 1) := by decide +kernel
theorem dL_law_203 : decode cL_law 203 = .ok (.iadd, 1) := by decide +kernel
theorem dL_law_204 : decode cL_law 204 = .ok (.iaload, 1) := by decide +kernel
theorem dL_law_205 : decode cL_law 205 = .ok (.aload_n 0, 1) := by decide +kernel
theorem dL_law_206 : decode cL_law 206 = .ok (.iload_n 3, 1) := by decide +kernel
theorem dL_law_207 : decode cL_law 207 = .ok (.iconst 2, 1) := by decide +kernel
theorem dL_law_208 : decode cL_law 208 = .ok (.iadd, 1) := by decide +kernel
theorem dL_law_209 : decode cL_law 209 = .ok (.iaload, 1) := by decide +kernel
theorem dL_law_210 : decode cL_law 210 = .ok (.invokevirtual 18, 3) := by decide +kernel
theorem dL_law_213 : decode cL_law 213 = .ok (.aload_n 2, 1) := by decide +kernel
theorem dL_law_214 : decode cL_law 214 = .ok (.aload_n 0, 1) := by decide +kernel
theorem dL_law_215 : decode cL_law 215 = .ok (.iload_n 3, 1) := by decide +kernel
theorem dL_law_216 : decode cL_law 216 = .ok (.iconst 1, 1) := by decide +kernel
theorem dL_law_217 : decode cL_law 217 = .ok (.iadd, 1) := by decide +kernel
theorem dL_law_218 : decode cL_law 218 = .ok (.iaload, 1) := by decide +kernel
theorem dL_law_219 : decode cL_law 219 = .ok (.aload_n 0, 1) := by decide +kernel
theorem dL_law_220 : decode cL_law 220 = .ok (.iload_n 3, 1) := by decide +kernel
theorem dL_law_221 : decode cL_law 221 = .ok (.iconst 2, 1) := by decide +kernel
theorem dL_law_222 : decode cL_law 222 = .ok (.iadd, 1) := by decide +kernel
theorem dL_law_223 : decode cL_law 223 = .ok (.iaload, 1) := by decide +kernel
theorem dL_law_224 : decode cL_law 224 = .ok (.invokevirtual 22, 3) := by decide +kernel
theorem dL_law_227 : decode cL_law 227 = .ok (.if_icmp .eq 690, 3) := by decide +kernel
theorem dL_law_230 : decode cL_law 230 = .ok (.iconst 0, 1) := by decide +kernel
theorem dL_law_231 : decode cL_law 231 = .ok (.ireturn, 1) := by decide +kernel
theorem dL_law_232 : decode cL_law 232 = .ok (.aload_n 1, 1) := by decide +kernel
theorem dL_law_233 : decode cL_law 233 = .ok (.aload_n 0, 1) := by decide +kernel
theorem dL_law_234 : decode cL_law 234 = .ok (.iload_n 3, 1) := by decide +kernel
theorem dL_law_235 : decode cL_law 235 = .ok (.iconst 1, 1) := by decide +kernel
theorem dL_law_236 : decode cL_law 236 = .ok (.iadd, 1) := by decide +kernel
theorem dL_law_237 : decode cL_law 237 = .ok (.iaload, 1) := by decide +kernel
theorem dL_law_238 : decode cL_law 238 = .ok (.aload_n 0, 1) := by decide +kernel
theorem dL_law_239 : decode cL_law 239 = .ok (.iload_n 3, 1) := by decide +kernel
theorem dL_law_240 : decode cL_law 240 = .ok (.iconst 2, 1) := by decide +kernel
theorem dL_law_241 : decode cL_law 241 = .ok (.iadd, 1) := by decide +kernel
theorem dL_law_242 : decode cL_law 242 = .ok (.iaload, 1) := by decide +kernel
theorem dL_law_243 : decode cL_law 243 = .ok (.aload_n 0, 1) := by decide +kernel
theorem dL_law_244 : decode cL_law 244 = .ok (.iload_n 3, 1) := by decide +kernel
theorem dL_law_245 : decode cL_law 245 = .ok (.iconst 3, 1) := by decide +kernel
theorem dL_law_246 : decode cL_law 246 = .ok (.iadd, 1) := by decide +kernel
theorem dL_law_247 : decode cL_law 247 = .ok (.iaload, 1) := by decide +kernel
theorem dL_law_248 : decode cL_law 248 = .ok (.invokevirtual 23, 3) := by decide +kernel
theorem dL_law_251 : decode cL_law 251 = .ok (.aload_n 2, 1) := by decide +kernel
theorem dL_law_252 : decode cL_law 252 = .ok (.aload_n 0, 1) := by decide +kernel
theorem dL_law_253 : decode cL_law 253 = .ok (.iload_n 3, 1) := by decide +kernel
theorem dL_law_254 : decode cL_law 254 = .ok (.iconst 1, 1) := by decide +kernel
theorem dL_law_255 : decode cL_law 255 = .ok (.iadd, 1) := by decide +kernel
theorem dL_law_256 : decode cL_law 256 = .ok (.iaload, 1) := by decide +kernel
theorem dL_law_257 : decode cL_law 257 = .ok (.aload_n 0, 1) := by decide +kernel
theorem dL_law_258 : decode cL_law 258 = .ok (.iload_n 3, 1) := by decide +kernel
theorem dL_law_259 : decode cL_law 259 = .ok (.iconst 2, 1) := by decide +kernel
theorem dL_law_260 : decode cL_law 260 = .ok (.iadd, 1) := by decide +kernel
theorem dL_law_261 : decode cL_law 261 = .ok (.iaload, 1) := by decide +kernel
theorem dL_law_262 : decode cL_law 262 = .ok (.aload_n 0, 1) := by decide +kernel
theorem dL_law_263 : decode cL_law 263 = .ok (.iload_n 3, 1) := by decide +kernel
theorem dL_law_264 : decode cL_law 264 = .ok (.iconst 3, 1) := by decide +kernel
theorem dL_law_265 : decode cL_law 265 = .ok (.iadd, 1) := by decide +kernel
theorem dL_law_266 : decode cL_law 266 = .ok (.iaload, 1) := by decide +kernel
theorem dL_law_267 : decode cL_law 267 = .ok (.invokevirtual 26, 3) := by decide +kernel
theorem dL_law_270 : decode cL_law 270 = .ok (.if_icmp .eq 647, 3) := by decide +kernel
theorem dL_law_273 : decode cL_law 273 = .ok (.iconst 0, 1) := by decide +kernel
theorem dL_law_274 : decode cL_law 274 = .ok (.ireturn, 1) := by decide +kernel
theorem dL_law_275 : decode cL_law 275 = .ok (.aload_n 1, 1) := by decide +kernel
theorem dL_law_276 : decode cL_law 276 = .ok (.aload_n 0, 1) := by decide +kernel
theorem dL_law_277 : decode cL_law 277 = .ok (.iload_n 3, 1) := by decide +kernel
theorem dL_law_278 : decode cL_law 278 = .ok (.iconst 1, 1) := by decide +kernel
theorem dL_law_279 : decode cL_law 279 = .ok (.iadd, 1) := by decide +kernel
theorem dL_law_280 : decode cL_law 280 = .ok (.iaload, 1) := by decide +kernel
theorem dL_law_281 : decode cL_law 281 = .ok (.invokevirtual 27, 3) := by decide +kernel
theorem dL_law_284 : decode cL_law 284 = .ok (.aload_n 2, 1) := by decide +kernel
theorem dL_law_285 : decode cL_law 285 = .ok (.aload_n 0, 1) := by decide +kernel
theorem dL_law_286 : decode cL_law 286 = .ok (.iload_n 3, 1) := by decide +kernel
theorem dL_law_287 : decode cL_law 287 = .ok (.iconst 1, 1) := by decide +kernel
theorem dL_law_288 : decode cL_law 288 = .ok (.iadd, 1) := by decide +kernel
theorem dL_law_289 : decode cL_law 289 = .ok (.iaload, 1) := by decide +kernel
theorem dL_law_290 : decode cL_law 290 = .ok (.invokevirtual 31, 3) := by decide +kernel
theorem dL_law_293 : decode cL_law 293 = .ok (.if_icmp .eq 624, 3) := by decide +kernel
theorem dL_law_296 : decode cL_law 296 = .ok (.iconst 0, 1) := by decide +kernel
theorem dL_law_297 : decode cL_law 297 = .ok (.ireturn, 1) := by decide +kernel
theorem dL_law_298 : decode cL_law 298 = .ok (.aload_n 1, 1) := by decide +kernel
theorem dL_law_299 : decode cL_law 299 = .ok (.aload_n 0, 1) := by decide +kernel
theorem dL_law_300 : decode cL_law 300 = .ok (.iload_n 3, 1) := by decide +kernel
theorem dL_law_301 : decode cL_law 301 = .ok (.iconst 1, 1) := by decide +kernel
theorem dL_law_302 : decode cL_law 302 = .ok (.iadd, 1) := by decide +kernel
theorem dL_law_303 : decode cL_law 303 = .ok (.iaload, 1) := by decide +kernel
theorem dL_law_304 : decode cL_law 304 = .ok (.aload_n 0, 1) := by decide +kernel
theorem dL_law_305 : decode cL_law 305 = .ok (.iload_n 3, 1) := by decide +kernel
theorem dL_law_306 : decode cL_law 306 = .ok (.iconst 2, 1) := by decide +kernel
theorem dL_law_307 : decode cL_law 307 = .ok (.iadd, 1) := by decide +kernel
theorem dL_law_308 : decode cL_law 308 = .ok (.iaload, 1) := by decide +kernel
theorem dL_law_309 : decode cL_law 309 = .ok (.invokevirtual 32, 3) := by decide +kernel
theorem dL_law_312 : decode cL_law 312 = .ok (.aload_n 2, 1) := by decide +kernel
theorem dL_law_313 : decode cL_law 313 = .ok (.aload_n 0, 1) := by decide +kernel
theorem dL_law_314 : decode cL_law 314 = .ok (.iload_n 3, 1) := by decide +kernel
theorem dL_law_315 : decode cL_law 315 = .ok (.iconst 1, 1) := by decide +kernel
theorem dL_law_316 : decode cL_law 316 = .ok (.iadd, 1) := by decide +kernel
theorem dL_law_317 : decode cL_law 317 = .ok (.iaload, 1) := by decide +kernel
theorem dL_law_318 : decode cL_law 318 = .ok (.aload_n 0, 1) := by decide +kernel
theorem dL_law_319 : decode cL_law 319 = .ok (.iload_n 3, 1) := by decide +kernel
theorem dL_law_320 : decode cL_law 320 = .ok (.iconst 2, 1) := by decide +kernel
theorem dL_law_321 : decode cL_law 321 = .ok (.iadd, 1) := by decide +kernel
theorem dL_law_322 : decode cL_law 322 = .ok (.iaload, 1) := by decide +kernel
theorem dL_law_323 : decode cL_law 323 = .ok (.invokevirtual 35, 3) := by decide +kernel
theorem dL_law_326 : decode cL_law 326 = .ok (.if_icmp .eq 591, 3) := by decide +kernel
theorem dL_law_329 : decode cL_law 329 = .ok (.iconst 0, 1) := by decide +kernel
theorem dL_law_330 : decode cL_law 330 = .ok (.ireturn, 1) := by decide +kernel
theorem dL_law_331 : decode cL_law 331 = .ok (.aload_n 1, 1) := by decide +kernel
theorem dL_law_332 : decode cL_law 332 = .ok (.aload_n 0, 1) := by decide +kernel
theorem dL_law_333 : decode cL_law 333 = .ok (.iload_n 3, 1) := by decide +kernel
theorem dL_law_334 : decode cL_law 334 = .ok (.iconst 1, 1) := by decide +kernel
theorem dL_law_335 : decode cL_law 335 = .ok (.iadd, 1) := by decide +kernel
theorem dL_law_336 : decode cL_law 336 = .ok (.iaload, 1) := by decide +kernel
theorem dL_law_337 : decode cL_law 337 = .ok (.invokevirtual 36, 3) := by decide +kernel
theorem dL_law_340 : decode cL_law 340 = .ok (.aload_n 2, 1) := by decide +kernel
theorem dL_law_341 : decode cL_law 341 = .ok (.aload_n 0, 1) := by decide +kernel
theorem dL_law_342 : decode cL_law 342 = .ok (.iload_n 3, 1) := by decide +kernel
theorem dL_law_343 : decode cL_law 343 = .ok (.iconst 1, 1) := by decide +kernel
theorem dL_law_344 : decode cL_law 344 = .ok (.iadd, 1) := by decide +kernel
theorem dL_law_345 : decode cL_law 345 = .ok (.iaload, 1) := by decide +kernel
theorem dL_law_346 : decode cL_law 346 = .ok (.invokevirtual 39, 3) := by decide +kernel
theorem dL_law_349 : decode cL_law 349 = .ok (.if_icmp .eq 568, 3) := by decide +kernel
theorem dL_law_352 : decode cL_law 352 = .ok (.iconst 0, 1) := by decide +kernel
theorem dL_law_353 : decode cL_law 353 = .ok (.ireturn, 1) := by decide +kernel
theorem dL_law_354 : decode cL_law 354 = .ok (.aload_n 1, 1) := by decide +kernel
theorem dL_law_355 : decode cL_law 355 = .ok (.aload_n 0, 1) := by decide +kernel
theorem dL_law_356 : decode cL_law 356 = .ok (.iload_n 3, 1) := by decide +kernel
theorem dL_law_357 : decode cL_law 357 = .ok (.iconst 1, 1) := by decide +kernel
theorem dL_law_358 : decode cL_law 358 = .ok (.iadd, 1) := by decide +kernel
theorem dL_law_359 : decode cL_law 359 = .ok (.iaload, 1) := by decide +kernel
theorem dL_law_360 : decode cL_law 360 = .ok (.invokevirtual 40, 3) := by decide +kernel
theorem dL_law_363 : decode cL_law 363 = .ok (.aload_n 2, 1) := by decide +kernel
theorem dL_law_364 : decode cL_law 364 = .ok (.aload_n 0, 1) := by decide +kernel
theorem dL_law_365 : decode cL_law 365 = .ok (.iload_n 3, 1) := by decide +kernel
theorem dL_law_366 : decode cL_law 366 = .ok (.iconst 1, 1) := by decide +kernel
theorem dL_law_367 : decode cL_law 367 = .ok (.iadd, 1) := by decide +kernel
theorem dL_law_368 : decode cL_law 368 = .ok (.iaload, 1) := by decide +kernel
theorem dL_law_369 : decode cL_law 369 = .ok (.invokevirtual 43, 3) := by decide +kernel
theorem dL_law_372 : decode cL_law 372 = .ok (.if_icmp .eq 545, 3) := by decide +kernel
theorem dL_law_375 : decode cL_law 375 = .ok (.iconst 0, 1) := by decide +kernel
theorem dL_law_376 : decode cL_law 376 = .ok (.ireturn, 1) := by decide +kernel
theorem dL_law_377 : decode cL_law 377 = .ok (.aload_n 1, 1) := by decide +kernel
theorem dL_law_378 : decode cL_law 378 = .ok (.aload_n 0, 1) := by decide +kernel
theorem dL_law_379 : decode cL_law 379 = .ok (.iload_n 3, 1) := by decide +kernel
theorem dL_law_380 : decode cL_law 380 = .ok (.iconst 1, 1) := by decide +kernel
theorem dL_law_381 : decode cL_law 381 = .ok (.iadd, 1) := by decide +kernel
theorem dL_law_382 : decode cL_law 382 = .ok (.iaload, 1) := by decide +kernel
theorem dL_law_383 : decode cL_law 383 = .ok (.aload_n 0, 1) := by decide +kernel
theorem dL_law_384 : decode cL_law 384 = .ok (.iload_n 3, 1) := by decide +kernel
theorem dL_law_385 : decode cL_law 385 = .ok (.iconst 2, 1) := by decide +kernel
theorem dL_law_386 : decode cL_law 386 = .ok (.iadd, 1) := by decide +kernel
theorem dL_law_387 : decode cL_law 387 = .ok (.iaload, 1) := by decide +kernel
theorem dL_law_388 : decode cL_law 388 = .ok (.invokevirtual 44, 3) := by decide +kernel
theorem dL_law_391 : decode cL_law 391 = .ok (.aload_n 2, 1) := by decide +kernel
theorem dL_law_392 : decode cL_law 392 = .ok (.aload_n 0, 1) := by decide +kernel
theorem dL_law_393 : decode cL_law 393 = .ok (.iload_n 3, 1) := by decide +kernel
theorem dL_law_394 : decode cL_law 394 = .ok (.iconst 1, 1) := by decide +kernel
theorem dL_law_395 : decode cL_law 395 = .ok (.iadd, 1) := by decide +kernel
theorem dL_law_396 : decode cL_law 396 = .ok (.iaload, 1) := by decide +kernel
theorem dL_law_397 : decode cL_law 397 = .ok (.aload_n 0, 1) := by decide +kernel
theorem dL_law_398 : decode cL_law 398 = .ok (.iload_n 3, 1) := by decide +kernel
theorem dL_law_399 : decode cL_law 399 = .ok (.iconst 2, 1) := by decide +kernel
theorem dL_law_400 : decode cL_law 400 = .ok (.iadd, 1) := by decide +kernel
theorem dL_law_401 : decode cL_law 401 = .ok (.iaload, 1) := by decide +kernel
theorem dL_law_402 : decode cL_law 402 = .ok (.invokevirtual 47, 3) := by decide +kernel
theorem dL_law_405 : decode cL_law 405 = .ok (.if_icmp .eq 512, 3) := by decide +kernel
theorem dL_law_408 : decode cL_law 408 = .ok (.iconst 0, 1) := by decide +kernel
theorem dL_law_409 : decode cL_law 409 = .ok (.ireturn, 1) := by decide +kernel
theorem dL_law_410 : decode cL_law 410 = .ok (.aload_n 1, 1) := by decide +kernel
theorem dL_law_411 : decode cL_law 411 = .ok (.aload_n 0, 1) := by decide +kernel
theorem dL_law_412 : decode cL_law 412 = .ok (.iload_n 3, 1) := by decide +kernel
theorem dL_law_413 : decode cL_law 413 = .ok (.iconst 1, 1) := by decide +kernel
theorem dL_law_414 : decode cL_law 414 = .ok (.iadd, 1) := by decide +kernel
theorem dL_law_415 : decode cL_law 415 = .ok (.iaload, 1) := by decide +kernel
theorem dL_law_416 : decode cL_law 416 = .ok (.aload_n 0, 1) := by decide +kernel
theorem dL_law_417 : decode cL_law 417 = .ok (.iload_n 3, 1) := by decide +kernel
theorem dL_law_418 : decode cL_law 418 = .ok (.iconst 2, 1) := by decide +kernel
theorem dL_law_419 : decode cL_law 419 = .ok (.iadd, 1) := by decide +kernel
theorem dL_law_420 : decode cL_law 420 = .ok (.iaload, 1) := by decide +kernel
theorem dL_law_421 : decode cL_law 421 = .ok (.invokevirtual 48, 3) := by decide +kernel
theorem dL_law_424 : decode cL_law 424 = .ok (.aload_n 2, 1) := by decide +kernel
theorem dL_law_425 : decode cL_law 425 = .ok (.aload_n 0, 1) := by decide +kernel
theorem dL_law_426 : decode cL_law 426 = .ok (.iload_n 3, 1) := by decide +kernel
theorem dL_law_427 : decode cL_law 427 = .ok (.iconst 1, 1) := by decide +kernel
theorem dL_law_428 : decode cL_law 428 = .ok (.iadd, 1) := by decide +kernel
theorem dL_law_429 : decode cL_law 429 = .ok (.iaload, 1) := by decide +kernel
theorem dL_law_430 : decode cL_law 430 = .ok (.aload_n 0, 1) := by decide +kernel
theorem dL_law_431 : decode cL_law 431 = .ok (.iload_n 3, 1) := by decide +kernel
theorem dL_law_432 : decode cL_law 432 = .ok (.iconst 2, 1) := by decide +kernel
theorem dL_law_433 : decode cL_law 433 = .ok (.iadd, 1) := by decide +kernel
theorem dL_law_434 : decode cL_law 434 = .ok (.iaload, 1) := by decide +kernel
theorem dL_law_435 : decode cL_law 435 = .ok (.invokevirtual 51, 3) := by decide +kernel
theorem dL_law_438 : decode cL_law 438 = .ok (.if_icmp .eq 479, 3) := by decide +kernel
theorem dL_law_441 : decode cL_law 441 = .ok (.iconst 0, 1) := by decide +kernel
theorem dL_law_442 : decode cL_law 442 = .ok (.ireturn, 1) := by decide +kernel
theorem dL_law_443 : decode cL_law 443 = .ok (.aload_n 1, 1) := by decide +kernel
theorem dL_law_444 : decode cL_law 444 = .ok (.aload_n 0, 1) := by decide +kernel
theorem dL_law_445 : decode cL_law 445 = .ok (.iload_n 3, 1) := by decide +kernel
theorem dL_law_446 : decode cL_law 446 = .ok (.iconst 1, 1) := by decide +kernel
theorem dL_law_447 : decode cL_law 447 = .ok (.iadd, 1) := by decide +kernel
theorem dL_law_448 : decode cL_law 448 = .ok (.iaload, 1) := by decide +kernel
theorem dL_law_449 : decode cL_law 449 = .ok (.aload_n 0, 1) := by decide +kernel
theorem dL_law_450 : decode cL_law 450 = .ok (.iload_n 3, 1) := by decide +kernel
theorem dL_law_451 : decode cL_law 451 = .ok (.iconst 2, 1) := by decide +kernel
theorem dL_law_452 : decode cL_law 452 = .ok (.iadd, 1) := by decide +kernel
theorem dL_law_453 : decode cL_law 453 = .ok (.iaload, 1) := by decide +kernel
theorem dL_law_454 : decode cL_law 454 = .ok (.invokevirtual 52, 3) := by decide +kernel
theorem dL_law_457 : decode cL_law 457 = .ok (.aload_n 2, 1) := by decide +kernel
theorem dL_law_458 : decode cL_law 458 = .ok (.aload_n 0, 1) := by decide +kernel
theorem dL_law_459 : decode cL_law 459 = .ok (.iload_n 3, 1) := by decide +kernel
theorem dL_law_460 : decode cL_law 460 = .ok (.iconst 1, 1) := by decide +kernel
theorem dL_law_461 : decode cL_law 461 = .ok (.iadd, 1) := by decide +kernel
theorem dL_law_462 : decode cL_law 462 = .ok (.iaload, 1) := by decide +kernel
theorem dL_law_463 : decode cL_law 463 = .ok (.aload_n 0, 1) := by decide +kernel
theorem dL_law_464 : decode cL_law 464 = .ok (.iload_n 3, 1) := by decide +kernel
theorem dL_law_465 : decode cL_law 465 = .ok (.iconst 2, 1) := by decide +kernel
theorem dL_law_466 : decode cL_law 466 = .ok (.iadd, 1) := by decide +kernel
theorem dL_law_467 : decode cL_law 467 = .ok (.iaload, 1) := by decide +kernel
theorem dL_law_468 : decode cL_law 468 = .ok (.invokevirtual 55, 3) := by decide +kernel
theorem dL_law_471 : decode cL_law 471 = .ok (.if_icmp .eq 446, 3) := by decide +kernel
theorem dL_law_474 : decode cL_law 474 = .ok (.iconst 0, 1) := by decide +kernel
theorem dL_law_475 : decode cL_law 475 = .ok (.ireturn, 1) := by decide +kernel
theorem dL_law_476 : decode cL_law 476 = .ok (.aload_n 1, 1) := by decide +kernel
theorem dL_law_477 : decode cL_law 477 = .ok (.aload_n 0, 1) := by decide +kernel
theorem dL_law_478 : decode cL_law 478 = .ok (.iload_n 3, 1) := by decide +kernel
theorem dL_law_479 : decode cL_law 479 = .ok (.iconst 1, 1) := by decide +kernel
theorem dL_law_480 : decode cL_law 480 = .ok (.iadd, 1) := by decide +kernel
theorem dL_law_481 : decode cL_law 481 = .ok (.iaload, 1) := by decide +kernel
theorem dL_law_482 : decode cL_law 482 = .ok (.aload_n 0, 1) := by decide +kernel
theorem dL_law_483 : decode cL_law 483 = .ok (.iload_n 3, 1) := by decide +kernel
theorem dL_law_484 : decode cL_law 484 = .ok (.iconst 2, 1) := by decide +kernel
theorem dL_law_485 : decode cL_law 485 = .ok (.iadd, 1) := by decide +kernel
theorem dL_law_486 : decode cL_law 486 = .ok (.iaload, 1) := by decide +kernel
theorem dL_law_487 : decode cL_law 487 = .ok (.invokevirtual 56, 3) := by decide +kernel
theorem dL_law_490 : decode cL_law 490 = .ok (.aload_n 2, 1) := by decide +kernel
theorem dL_law_491 : decode cL_law 491 = .ok (.aload_n 0, 1) := by decide +kernel
theorem dL_law_492 : decode cL_law 492 = .ok (.iload_n 3, 1) := by decide +kernel
theorem dL_law_493 : decode cL_law 493 = .ok (.iconst 1, 1) := by decide +kernel
theorem dL_law_494 : decode cL_law 494 = .ok (.iadd, 1) := by decide +kernel
theorem dL_law_495 : decode cL_law 495 = .ok (.iaload, 1) := by decide +kernel
theorem dL_law_496 : decode cL_law 496 = .ok (.aload_n 0, 1) := by decide +kernel
theorem dL_law_497 : decode cL_law 497 = .ok (.iload_n 3, 1) := by decide +kernel
theorem dL_law_498 : decode cL_law 498 = .ok (.iconst 2, 1) := by decide +kernel
theorem dL_law_499 : decode cL_law 499 = .ok (.iadd, 1) := by decide +kernel
theorem dL_law_500 : decode cL_law 500 = .ok (.iaload, 1) := by decide +kernel
theorem dL_law_501 : decode cL_law 501 = .ok (.invokevirtual 59, 3) := by decide +kernel
theorem dL_law_504 : decode cL_law 504 = .ok (.if_icmp .eq 413, 3) := by decide +kernel
theorem dL_law_507 : decode cL_law 507 = .ok (.iconst 0, 1) := by decide +kernel
theorem dL_law_508 : decode cL_law 508 = .ok (.ireturn, 1) := by decide +kernel
theorem dL_law_509 : decode cL_law 509 = .ok (.aload_n 1, 1) := by decide +kernel
theorem dL_law_510 : decode cL_law 510 = .ok (.aload_n 0, 1) := by decide +kernel
theorem dL_law_511 : decode cL_law 511 = .ok (.iload_n 3, 1) := by decide +kernel
theorem dL_law_512 : decode cL_law 512 = .ok (.iconst 1, 1) := by decide +kernel
theorem dL_law_513 : decode cL_law 513 = .ok (.iadd, 1) := by decide +kernel
theorem dL_law_514 : decode cL_law 514 = .ok (.iaload, 1) := by decide +kernel
theorem dL_law_515 : decode cL_law 515 = .ok (.aload_n 0, 1) := by decide +kernel
theorem dL_law_516 : decode cL_law 516 = .ok (.iload_n 3, 1) := by decide +kernel
theorem dL_law_517 : decode cL_law 517 = .ok (.iconst 2, 1) := by decide +kernel
theorem dL_law_518 : decode cL_law 518 = .ok (.iadd, 1) := by decide +kernel
theorem dL_law_519 : decode cL_law 519 = .ok (.iaload, 1) := by decide +kernel
theorem dL_law_520 : decode cL_law 520 = .ok (.aload_n 0, 1) := by decide +kernel
theorem dL_law_521 : decode cL_law 521 = .ok (.iload_n 3, 1) := by decide +kernel
theorem dL_law_522 : decode cL_law 522 = .ok (.iconst 3, 1) := by decide +kernel
theorem dL_law_523 : decode cL_law 523 = .ok (.iadd, 1) := by decide +kernel
theorem dL_law_524 : decode cL_law 524 = .ok (.iaload, 1) := by decide +kernel
theorem dL_law_525 : decode cL_law 525 = .ok (.invokevirtual 60, 3) := by decide +kernel
theorem dL_law_528 : decode cL_law 528 = .ok (.aload_n 2, 1) := by decide +kernel
theorem dL_law_529 : decode cL_law 529 = .ok (.aload_n 0, 1) := by decide +kernel
theorem dL_law_530 : decode cL_law 530 = .ok (.iload_n 3, 1) := by decide +kernel
theorem dL_law_531 : decode cL_law 531 = .ok (.iconst 1, 1) := by decide +kernel
theorem dL_law_532 : decode cL_law 532 = .ok (.iadd, 1) := by decide +kernel
theorem dL_law_533 : decode cL_law 533 = .ok (.iaload, 1) := by decide +kernel
theorem dL_law_534 : decode cL_law 534 = .ok (.aload_n 0, 1) := by decide +kernel
theorem dL_law_535 : decode cL_law 535 = .ok (.iload_n 3, 1) := by decide +kernel
theorem dL_law_536 : decode cL_law 536 = .ok (.iconst 2, 1) := by decide +kernel
theorem dL_law_537 : decode cL_law 537 = .ok (.iadd, 1) := by decide +kernel
theorem dL_law_538 : decode cL_law 538 = .ok (.iaload, 1) := by decide +kernel
theorem dL_law_539 : decode cL_law 539 = .ok (.aload_n 0, 1) := by decide +kernel
theorem dL_law_540 : decode cL_law 540 = .ok (.iload_n 3, 1) := by decide +kernel
theorem dL_law_541 : decode cL_law 541 = .ok (.iconst 3, 1) := by decide +kernel
theorem dL_law_542 : decode cL_law 542 = .ok (.iadd, 1) := by decide +kernel
theorem dL_law_543 : decode cL_law 543 = .ok (.iaload, 1) := by decide +kernel
theorem dL_law_544 : decode cL_law 544 = .ok (.invokevirtual 63, 3) := by decide +kernel
theorem dL_law_547 : decode cL_law 547 = .ok (.if_icmp .eq 370, 3) := by decide +kernel
theorem dL_law_550 : decode cL_law 550 = .ok (.iconst 0, 1) := by decide +kernel
theorem dL_law_551 : decode cL_law 551 = .ok (.ireturn, 1) := by decide +kernel
theorem dL_law_552 : decode cL_law 552 = .ok (.aload_n 1, 1) := by decide +kernel
theorem dL_law_553 : decode cL_law 553 = .ok (.aload_n 0, 1) := by decide +kernel
theorem dL_law_554 : decode cL_law 554 = .ok (.iload_n 3, 1) := by decide +kernel
theorem dL_law_555 : decode cL_law 555 = .ok (.iconst 1, 1) := by decide +kernel
theorem dL_law_556 : decode cL_law 556 = .ok (.iadd, 1) := by decide +kernel
theorem dL_law_557 : decode cL_law 557 = .ok (.iaload, 1) := by decide +kernel
theorem dL_law_558 : decode cL_law 558 = .ok (.aload_n 0, 1) := by decide +kernel
theorem dL_law_559 : decode cL_law 559 = .ok (.iload_n 3, 1) := by decide +kernel
theorem dL_law_560 : decode cL_law 560 = .ok (.iconst 2, 1) := by decide +kernel
theorem dL_law_561 : decode cL_law 561 = .ok (.iadd, 1) := by decide +kernel
theorem dL_law_562 : decode cL_law 562 = .ok (.iaload, 1) := by decide +kernel
theorem dL_law_563 : decode cL_law 563 = .ok (.invokevirtual 64, 3) := by decide +kernel
theorem dL_law_566 : decode cL_law 566 = .ok (.aload_n 2, 1) := by decide +kernel
theorem dL_law_567 : decode cL_law 567 = .ok (.aload_n 0, 1) := by decide +kernel
theorem dL_law_568 : decode cL_law 568 = .ok (.iload_n 3, 1) := by decide +kernel
theorem dL_law_569 : decode cL_law 569 = .ok (.iconst 1, 1) := by decide +kernel
theorem dL_law_570 : decode cL_law 570 = .ok (.iadd, 1) := by decide +kernel
theorem dL_law_571 : decode cL_law 571 = .ok (.iaload, 1) := by decide +kernel
theorem dL_law_572 : decode cL_law 572 = .ok (.aload_n 0, 1) := by decide +kernel
theorem dL_law_573 : decode cL_law 573 = .ok (.iload_n 3, 1) := by decide +kernel
theorem dL_law_574 : decode cL_law 574 = .ok (.iconst 2, 1) := by decide +kernel
theorem dL_law_575 : decode cL_law 575 = .ok (.iadd, 1) := by decide +kernel
theorem dL_law_576 : decode cL_law 576 = .ok (.iaload, 1) := by decide +kernel
theorem dL_law_577 : decode cL_law 577 = .ok (.invokevirtual 67, 3) := by decide +kernel
theorem dL_law_580 : decode cL_law 580 = .ok (.if_icmp .eq 337, 3) := by decide +kernel
theorem dL_law_583 : decode cL_law 583 = .ok (.iconst 0, 1) := by decide +kernel
theorem dL_law_584 : decode cL_law 584 = .ok (.ireturn, 1) := by decide +kernel
theorem dL_law_585 : decode cL_law 585 = .ok (.aload_n 1, 1) := by decide +kernel
theorem dL_law_586 : decode cL_law 586 = .ok (.aload_n 0, 1) := by decide +kernel
theorem dL_law_587 : decode cL_law 587 = .ok (.iload_n 3, 1) := by decide +kernel
theorem dL_law_588 : decode cL_law 588 = .ok (.iconst 1, 1) := by decide +kernel
theorem dL_law_589 : decode cL_law 589 = .ok (.iadd, 1) := by decide +kernel
theorem dL_law_590 : decode cL_law 590 = .ok (.iaload, 1) := by decide +kernel
theorem dL_law_591 : decode cL_law 591 = .ok (.aload_n 0, 1) := by decide +kernel
theorem dL_law_592 : decode cL_law 592 = .ok (.iload_n 3, 1) := by decide +kernel
theorem dL_law_593 : decode cL_law 593 = .ok (.iconst 2, 1) := by decide +kernel
theorem dL_law_594 : decode cL_law 594 = .ok (.iadd, 1) := by decide +kernel
theorem dL_law_595 : decode cL_law 595 = .ok (.iaload, 1) := by decide +kernel
theorem dL_law_596 : decode cL_law 596 = .ok (.invokevirtual 68, 3) := by decide +kernel
theorem dL_law_599 : decode cL_law 599 = .ok (.aload_n 2, 1) := by decide +kernel
theorem dL_law_600 : decode cL_law 600 = .ok (.aload_n 0, 1) := by decide +kernel
theorem dL_law_601 : decode cL_law 601 = .ok (.iload_n 3, 1) := by decide +kernel
theorem dL_law_602 : decode cL_law 602 = .ok (.iconst 1, 1) := by decide +kernel
theorem dL_law_603 : decode cL_law 603 = .ok (.iadd, 1) := by decide +kernel
theorem dL_law_604 : decode cL_law 604 = .ok (.iaload, 1) := by decide +kernel
theorem dL_law_605 : decode cL_law 605 = .ok (.aload_n 0, 1) := by decide +kernel
theorem dL_law_606 : decode cL_law 606 = .ok (.iload_n 3, 1) := by decide +kernel
theorem dL_law_607 : decode cL_law 607 = .ok (.iconst 2, 1) := by decide +kernel
theorem dL_law_608 : decode cL_law 608 = .ok (.iadd, 1) := by decide +kernel
theorem dL_law_609 : decode cL_law 609 = .ok (.iaload, 1) := by decide +kernel
theorem dL_law_610 : decode cL_law 610 = .ok (.invokevirtual 71, 3) := by decide +kernel
theorem dL_law_613 : decode cL_law 613 = .ok (.if_icmp .eq 304, 3) := by decide +kernel
theorem dL_law_616 : decode cL_law 616 = .ok (.iconst 0, 1) := by decide +kernel
theorem dL_law_617 : decode cL_law 617 = .ok (.ireturn, 1) := by decide +kernel
theorem dL_law_618 : decode cL_law 618 = .ok (.aload_n 1, 1) := by decide +kernel
theorem dL_law_619 : decode cL_law 619 = .ok (.aload_n 0, 1) := by decide +kernel
theorem dL_law_620 : decode cL_law 620 = .ok (.iload_n 3, 1) := by decide +kernel
theorem dL_law_621 : decode cL_law 621 = .ok (.iconst 1, 1) := by decide +kernel
theorem dL_law_622 : decode cL_law 622 = .ok (.iadd, 1) := by decide +kernel
theorem dL_law_623 : decode cL_law 623 = .ok (.iaload, 1) := by decide +kernel
theorem dL_law_624 : decode cL_law 624 = .ok (.aload_n 0, 1) := by decide +kernel
theorem dL_law_625 : decode cL_law 625 = .ok (.iload_n 3, 1) := by decide +kernel
theorem dL_law_626 : decode cL_law 626 = .ok (.iconst 2, 1) := by decide +kernel
theorem dL_law_627 : decode cL_law 627 = .ok (.iadd, 1) := by decide +kernel
theorem dL_law_628 : decode cL_law 628 = .ok (.iaload, 1) := by decide +kernel
theorem dL_law_629 : decode cL_law 629 = .ok (.invokevirtual 72, 3) := by decide +kernel
theorem dL_law_632 : decode cL_law 632 = .ok (.aload_n 2, 1) := by decide +kernel
theorem dL_law_633 : decode cL_law 633 = .ok (.aload_n 0, 1) := by decide +kernel
theorem dL_law_634 : decode cL_law 634 = .ok (.iload_n 3, 1) := by decide +kernel
theorem dL_law_635 : decode cL_law 635 = .ok (.iconst 1, 1) := by decide +kernel
theorem dL_law_636 : decode cL_law 636 = .ok (.iadd, 1) := by decide +kernel
theorem dL_law_637 : decode cL_law 637 = .ok (.iaload, 1) := by decide +kernel
theorem dL_law_638 : decode cL_law 638 = .ok (.aload_n 0, 1) := by decide +kernel
theorem dL_law_639 : decode cL_law 639 = .ok (.iload_n 3, 1) := by decide +kernel
theorem dL_law_640 : decode cL_law 640 = .ok (.iconst 2, 1) := by decide +kernel
theorem dL_law_641 : decode cL_law 641 = .ok (.iadd, 1) := by decide +kernel
theorem dL_law_642 : decode cL_law 642 = .ok (.iaload, 1) := by decide +kernel
theorem dL_law_643 : decode cL_law 643 = .ok (.invokevirtual 75, 3) := by decide +kernel
theorem dL_law_646 : decode cL_law 646 = .ok (.if_icmp .eq 271, 3) := by decide +kernel
theorem dL_law_649 : decode cL_law 649 = .ok (.iconst 0, 1) := by decide +kernel
theorem dL_law_650 : decode cL_law 650 = .ok (.ireturn, 1) := by decide +kernel
theorem dL_law_651 : decode cL_law 651 = .ok (.aload_n 1, 1) := by decide +kernel
theorem dL_law_652 : decode cL_law 652 = .ok (.aload_n 0, 1) := by decide +kernel
theorem dL_law_653 : decode cL_law 653 = .ok (.iload_n 3, 1) := by decide +kernel
theorem dL_law_654 : decode cL_law 654 = .ok (.iconst 1, 1) := by decide +kernel
theorem dL_law_655 : decode cL_law 655 = .ok (.iadd, 1) := by decide +kernel
theorem dL_law_656 : decode cL_law 656 = .ok (.iaload, 1) := by decide +kernel
theorem dL_law_657 : decode cL_law 657 = .ok (.aload_n 0, 1) := by decide +kernel
theorem dL_law_658 : decode cL_law 658 = .ok (.iload_n 3, 1) := by decide +kernel
theorem dL_law_659 : decode cL_law 659 = .ok (.iconst 2, 1) := by decide +kernel
theorem dL_law_660 : decode cL_law 660 = .ok (.iadd, 1) := by decide +kernel
theorem dL_law_661 : decode cL_law 661 = .ok (.iaload, 1) := by decide +kernel
theorem dL_law_662 : decode cL_law 662 = .ok (.invokevirtual 76, 3) := by decide +kernel
theorem dL_law_665 : decode cL_law 665 = .ok (.aload_n 2, 1) := by decide +kernel
theorem dL_law_666 : decode cL_law 666 = .ok (.aload_n 0, 1) := by decide +kernel
theorem dL_law_667 : decode cL_law 667 = .ok (.iload_n 3, 1) := by decide +kernel
theorem dL_law_668 : decode cL_law 668 = .ok (.iconst 1, 1) := by decide +kernel
theorem dL_law_669 : decode cL_law 669 = .ok (.iadd, 1) := by decide +kernel
theorem dL_law_670 : decode cL_law 670 = .ok (.iaload, 1) := by decide +kernel
theorem dL_law_671 : decode cL_law 671 = .ok (.aload_n 0, 1) := by decide +kernel
theorem dL_law_672 : decode cL_law 672 = .ok (.iload_n 3, 1) := by decide +kernel
theorem dL_law_673 : decode cL_law 673 = .ok (.iconst 2, 1) := by decide +kernel
theorem dL_law_674 : decode cL_law 674 = .ok (.iadd, 1) := by decide +kernel
theorem dL_law_675 : decode cL_law 675 = .ok (.iaload, 1) := by decide +kernel
theorem dL_law_676 : decode cL_law 676 = .ok (.invokevirtual 79, 3) := by decide +kernel
theorem dL_law_679 : decode cL_law 679 = .ok (.if_icmp .eq 238, 3) := by decide +kernel
theorem dL_law_682 : decode cL_law 682 = .ok (.iconst 0, 1) := by decide +kernel
theorem dL_law_683 : decode cL_law 683 = .ok (.ireturn, 1) := by decide +kernel
theorem dL_law_684 : decode cL_law 684 = .ok (.aload_n 1, 1) := by decide +kernel
theorem dL_law_685 : decode cL_law 685 = .ok (.aload_n 0, 1) := by decide +kernel
theorem dL_law_686 : decode cL_law 686 = .ok (.iload_n 3, 1) := by decide +kernel
theorem dL_law_687 : decode cL_law 687 = .ok (.iconst 1, 1) := by decide +kernel
theorem dL_law_688 : decode cL_law 688 = .ok (.iadd, 1) := by decide +kernel
theorem dL_law_689 : decode cL_law 689 = .ok (.iaload, 1) := by decide +kernel
theorem dL_law_690 : decode cL_law 690 = .ok (.invokevirtual 80, 3) := by decide +kernel
theorem dL_law_693 : decode cL_law 693 = .ok (.aload_n 2, 1) := by decide +kernel
theorem dL_law_694 : decode cL_law 694 = .ok (.aload_n 0, 1) := by decide +kernel
theorem dL_law_695 : decode cL_law 695 = .ok (.iload_n 3, 1) := by decide +kernel
theorem dL_law_696 : decode cL_law 696 = .ok (.iconst 1, 1) := by decide +kernel
theorem dL_law_697 : decode cL_law 697 = .ok (.iadd, 1) := by decide +kernel
theorem dL_law_698 : decode cL_law 698 = .ok (.iaload, 1) := by decide +kernel
theorem dL_law_699 : decode cL_law 699 = .ok (.invokevirtual 83, 3) := by decide +kernel
theorem dL_law_702 : decode cL_law 702 = .ok (.if_icmp .eq 215, 3) := by decide +kernel
theorem dL_law_705 : decode cL_law 705 = .ok (.iconst 0, 1) := by decide +kernel
theorem dL_law_706 : decode cL_law 706 = .ok (.ireturn, 1) := by decide +kernel
theorem dL_law_707 : decode cL_law 707 = .ok (.aload_n 1, 1) := by decide +kernel
theorem dL_law_708 : decode cL_law 708 = .ok (.aload_n 0, 1) := by decide +kernel
theorem dL_law_709 : decode cL_law 709 = .ok (.iload_n 3, 1) := by decide +kernel
theorem dL_law_710 : decode cL_law 710 = .ok (.iconst 1, 1) := by decide +kernel
theorem dL_law_711 : decode cL_law 711 = .ok (.iadd, 1) := by decide +kernel
theorem dL_law_712 : decode cL_law 712 = .ok (.iaload, 1) := by decide +kernel
theorem dL_law_713 : decode cL_law 713 = .ok (.aload_n 0, 1) := by decide +kernel
theorem dL_law_714 : decode cL_law 714 = .ok (.iload_n 3, 1) := by decide +kernel
theorem dL_law_715 : decode cL_law 715 = .ok (.iconst 2, 1) := by decide +kernel
theorem dL_law_716 : decode cL_law 716 = .ok (.iadd, 1) := by decide +kernel
theorem dL_law_717 : decode cL_law 717 = .ok (.iaload, 1) := by decide +kernel
theorem dL_law_718 : decode cL_law 718 = .ok (.invokevirtual 84, 3) := by decide +kernel
theorem dL_law_721 : decode cL_law 721 = .ok (.aload_n 2, 1) := by decide +kernel
theorem dL_law_722 : decode cL_law 722 = .ok (.aload_n 0, 1) := by decide +kernel
theorem dL_law_723 : decode cL_law 723 = .ok (.iload_n 3, 1) := by decide +kernel
theorem dL_law_724 : decode cL_law 724 = .ok (.iconst 1, 1) := by decide +kernel
theorem dL_law_725 : decode cL_law 725 = .ok (.iadd, 1) := by decide +kernel
theorem dL_law_726 : decode cL_law 726 = .ok (.iaload, 1) := by decide +kernel
theorem dL_law_727 : decode cL_law 727 = .ok (.aload_n 0, 1) := by decide +kernel
theorem dL_law_728 : decode cL_law 728 = .ok (.iload_n 3, 1) := by decide +kernel
theorem dL_law_729 : decode cL_law 729 = .ok (.iconst 2, 1) := by decide +kernel
theorem dL_law_730 : decode cL_law 730 = .ok (.iadd, 1) := by decide +kernel
theorem dL_law_731 : decode cL_law 731 = .ok (.iaload, 1) := by decide +kernel
theorem dL_law_732 : decode cL_law 732 = .ok (.invokevirtual 87, 3) := by decide +kernel
theorem dL_law_735 : decode cL_law 735 = .ok (.if_icmp .eq 182, 3) := by decide +kernel
theorem dL_law_738 : decode cL_law 738 = .ok (.iconst 0, 1) := by decide +kernel
theorem dL_law_739 : decode cL_law 739 = .ok (.ireturn, 1) := by decide +kernel
theorem dL_law_740 : decode cL_law 740 = .ok (.aload_n 1, 1) := by decide +kernel
theorem dL_law_741 : decode cL_law 741 = .ok (.aload_n 0, 1) := by decide +kernel
theorem dL_law_742 : decode cL_law 742 = .ok (.iload_n 3, 1) := by decide +kernel
theorem dL_law_743 : decode cL_law 743 = .ok (.iconst 1, 1) := by decide +kernel
theorem dL_law_744 : decode cL_law 744 = .ok (.iadd, 1) := by decide +kernel
theorem dL_law_745 : decode cL_law 745 = .ok (.iaload, 1) := by decide +kernel
theorem dL_law_746 : decode cL_law 746 = .ok (.invokevirtual 88, 3) := by decide +kernel
theorem dL_law_749 : decode cL_law 749 = .ok (.aload_n 2, 1) := by decide +kernel
theorem dL_law_750 : decode cL_law 750 = .ok (.aload_n 0, 1) := by decide +kernel
theorem dL_law_751 : decode cL_law 751 = .ok (.iload_n 3, 1) := by decide +kernel
theorem dL_law_752 : decode cL_law 752 = .ok (.iconst 1, 1) := by decide +kernel
theorem dL_law_753 : decode cL_law 753 = .ok (.iadd, 1) := by decide +kernel
theorem dL_law_754 : decode cL_law 754 = .ok (.iaload, 1) := by decide +kernel
theorem dL_law_755 : decode cL_law 755 = .ok (.invokevirtual 91, 3) := by decide +kernel
theorem dL_law_758 : decode cL_law 758 = .ok (.if_icmp .eq 159, 3) := by decide +kernel
theorem dL_law_761 : decode cL_law 761 = .ok (.iconst 0, 1) := by decide +kernel
theorem dL_law_762 : decode cL_law 762 = .ok (.ireturn, 1) := by decide +kernel
theorem dL_law_763 : decode cL_law 763 = .ok (.aload_n 1, 1) := by decide +kernel
theorem dL_law_764 : decode cL_law 764 = .ok (.aload_n 0, 1) := by decide +kernel
theorem dL_law_765 : decode cL_law 765 = .ok (.iload_n 3, 1) := by decide +kernel
theorem dL_law_766 : decode cL_law 766 = .ok (.iconst 1, 1) := by decide +kernel
theorem dL_law_767 : decode cL_law 767 = .ok (.iadd, 1) := by decide +kernel
theorem dL_law_768 : decode cL_law 768 = .ok (.iaload, 1) := by decide +kernel
theorem dL_law_769 : decode cL_law 769 = .ok (.invokevirtual 92, 3) := by decide +kernel
theorem dL_law_772 : decode cL_law 772 = .ok (.aload_n 2, 1) := by decide +kernel
theorem dL_law_773 : decode cL_law 773 = .ok (.aload_n 0, 1) := by decide +kernel
theorem dL_law_774 : decode cL_law 774 = .ok (.iload_n 3, 1) := by decide +kernel
theorem dL_law_775 : decode cL_law 775 = .ok (.iconst 1, 1) := by decide +kernel
theorem dL_law_776 : decode cL_law 776 = .ok (.iadd, 1) := by decide +kernel
theorem dL_law_777 : decode cL_law 777 = .ok (.iaload, 1) := by decide +kernel
theorem dL_law_778 : decode cL_law 778 = .ok (.invokevirtual 95, 3) := by decide +kernel
theorem dL_law_781 : decode cL_law 781 = .ok (.if_icmp .eq 136, 3) := by decide +kernel
theorem dL_law_784 : decode cL_law 784 = .ok (.iconst 0, 1) := by decide +kernel
theorem dL_law_785 : decode cL_law 785 = .ok (.ireturn, 1) := by decide +kernel
theorem dL_law_786 : decode cL_law 786 = .ok (.aload_n 1, 1) := by decide +kernel
theorem dL_law_787 : decode cL_law 787 = .ok (.aload_n 0, 1) := by decide +kernel
theorem dL_law_788 : decode cL_law 788 = .ok (.iload_n 3, 1) := by decide +kernel
theorem dL_law_789 : decode cL_law 789 = .ok (.iconst 1, 1) := by decide +kernel
theorem dL_law_790 : decode cL_law 790 = .ok (.iadd, 1) := by decide +kernel
theorem dL_law_791 : decode cL_law 791 = .ok (.iaload, 1) := by decide +kernel
theorem dL_law_792 : decode cL_law 792 = .ok (.invokevirtual 96, 3) := by decide +kernel
theorem dL_law_795 : decode cL_law 795 = .ok (.aload_n 2, 1) := by decide +kernel
theorem dL_law_796 : decode cL_law 796 = .ok (.aload_n 0, 1) := by decide +kernel
theorem dL_law_797 : decode cL_law 797 = .ok (.iload_n 3, 1) := by decide +kernel
theorem dL_law_798 : decode cL_law 798 = .ok (.iconst 1, 1) := by decide +kernel
theorem dL_law_799 : decode cL_law 799 = .ok (.iadd, 1) := by decide +kernel
theorem dL_law_800 : decode cL_law 800 = .ok (.iaload, 1) := by decide +kernel
theorem dL_law_801 : decode cL_law 801 = .ok (.invokevirtual 99, 3) := by decide +kernel
theorem dL_law_804 : decode cL_law 804 = .ok (.if_icmp .eq 113, 3) := by decide +kernel
theorem dL_law_807 : decode cL_law 807 = .ok (.iconst 0, 1) := by decide +kernel
theorem dL_law_808 : decode cL_law 808 = .ok (.ireturn, 1) := by decide +kernel
theorem dL_law_809 : decode cL_law 809 = .ok (.aload_n 1, 1) := by decide +kernel
theorem dL_law_810 : decode cL_law 810 = .ok (.aload_n 0, 1) := by decide +kernel
theorem dL_law_811 : decode cL_law 811 = .ok (.iload_n 3, 1) := by decide +kernel
theorem dL_law_812 : decode cL_law 812 = .ok (.iconst 1, 1) := by decide +kernel
theorem dL_law_813 : decode cL_law 813 = .ok (.iadd, 1) := by decide +kernel
theorem dL_law_814 : decode cL_law 814 = .ok (.iaload, 1) := by decide +kernel
theorem dL_law_815 : decode cL_law 815 = .ok (.invokevirtual 100, 3) := by decide +kernel
theorem dL_law_818 : decode cL_law 818 = .ok (.aload_n 2, 1) := by decide +kernel
theorem dL_law_819 : decode cL_law 819 = .ok (.aload_n 0, 1) := by decide +kernel
theorem dL_law_820 : decode cL_law 820 = .ok (.iload_n 3, 1) := by decide +kernel
theorem dL_law_821 : decode cL_law 821 = .ok (.iconst 1, 1) := by decide +kernel
theorem dL_law_822 : decode cL_law 822 = .ok (.iadd, 1) := by decide +kernel
theorem dL_law_823 : decode cL_law 823 = .ok (.iaload, 1) := by decide +kernel
theorem dL_law_824 : decode cL_law 824 = .ok (.invokevirtual 103, 3) := by decide +kernel
theorem dL_law_827 : decode cL_law 827 = .ok (.if_icmp .eq 90, 3) := by decide +kernel
theorem dL_law_830 : decode cL_law 830 = .ok (.iconst 0, 1) := by decide +kernel
theorem dL_law_831 : decode cL_law 831 = .ok (.ireturn, 1) := by decide +kernel
theorem dL_law_832 : decode cL_law 832 = .ok (.aload_n 1, 1) := by decide +kernel
theorem dL_law_833 : decode cL_law 833 = .ok (.invokevirtual 104, 3) := by decide +kernel
theorem dL_law_836 : decode cL_law 836 = .ok (.aload_n 2, 1) := by decide +kernel
theorem dL_law_837 : decode cL_law 837 = .ok (.invokevirtual 108, 3) := by decide +kernel
theorem dL_law_840 : decode cL_law 840 = .ok (.if_icmp .eq 77, 3) := by decide +kernel
theorem dL_law_843 : decode cL_law 843 = .ok (.iconst 0, 1) := by decide +kernel
theorem dL_law_844 : decode cL_law 844 = .ok (.ireturn, 1) := by decide +kernel
theorem dL_law_845 : decode cL_law 845 = .ok (.aload_n 1, 1) := by decide +kernel
theorem dL_law_846 : decode cL_law 846 = .ok (.aload_n 0, 1) := by decide +kernel
theorem dL_law_847 : decode cL_law 847 = .ok (.iload_n 3, 1) := by decide +kernel
theorem dL_law_848 : decode cL_law 848 = .ok (.iconst 1, 1) := by decide +kernel
theorem dL_law_849 : decode cL_law 849 = .ok (.iadd, 1) := by decide +kernel
theorem dL_law_850 : decode cL_law 850 = .ok (.iaload, 1) := by decide +kernel
theorem dL_law_851 : decode cL_law 851 = .ok (.invokevirtual 109, 3) := by decide +kernel
theorem dL_law_854 : decode cL_law 854 = .ok (.aload_n 2, 1) := by decide +kernel
theorem dL_law_855 : decode cL_law 855 = .ok (.aload_n 0, 1) := by decide +kernel
theorem dL_law_856 : decode cL_law 856 = .ok (.iload_n 3, 1) := by decide +kernel
theorem dL_law_857 : decode cL_law 857 = .ok (.iconst 1, 1) := by decide +kernel
theorem dL_law_858 : decode cL_law 858 = .ok (.iadd, 1) := by decide +kernel
theorem dL_law_859 : decode cL_law 859 = .ok (.iaload, 1) := by decide +kernel
theorem dL_law_860 : decode cL_law 860 = .ok (.invokevirtual 112, 3) := by decide +kernel
theorem dL_law_863 : decode cL_law 863 = .ok (.if_icmp .eq 54, 3) := by decide +kernel
theorem dL_law_866 : decode cL_law 866 = .ok (.iconst 0, 1) := by decide +kernel
theorem dL_law_867 : decode cL_law 867 = .ok (.ireturn, 1) := by decide +kernel
theorem dL_law_868 : decode cL_law 868 = .ok (.aload_n 1, 1) := by decide +kernel
theorem dL_law_869 : decode cL_law 869 = .ok (.invokevirtual 113, 3) := by decide +kernel
theorem dL_law_872 : decode cL_law 872 = .ok (.aload_n 2, 1) := by decide +kernel
theorem dL_law_873 : decode cL_law 873 = .ok (.invokevirtual 116, 3) := by decide +kernel
theorem dL_law_876 : decode cL_law 876 = .ok (.if_icmp .eq 41, 3) := by decide +kernel
theorem dL_law_879 : decode cL_law 879 = .ok (.iconst 0, 1) := by decide +kernel
theorem dL_law_880 : decode cL_law 880 = .ok (.ireturn, 1) := by decide +kernel
theorem dL_law_881 : decode cL_law 881 = .ok (.aload_n 1, 1) := by decide +kernel
theorem dL_law_882 : decode cL_law 882 = .ok (.aload_n 0, 1) := by decide +kernel
theorem dL_law_883 : decode cL_law 883 = .ok (.iload_n 3, 1) := by decide +kernel
theorem dL_law_884 : decode cL_law 884 = .ok (.iconst 1, 1) := by decide +kernel
theorem dL_law_885 : decode cL_law 885 = .ok (.iadd, 1) := by decide +kernel
theorem dL_law_886 : decode cL_law 886 = .ok (.iaload, 1) := by decide +kernel
theorem dL_law_887 : decode cL_law 887 = .ok (.invokevirtual 117, 3) := by decide +kernel
theorem dL_law_890 : decode cL_law 890 = .ok (.aload_n 2, 1) := by decide +kernel
theorem dL_law_891 : decode cL_law 891 = .ok (.aload_n 0, 1) := by decide +kernel
theorem dL_law_892 : decode cL_law 892 = .ok (.iload_n 3, 1) := by decide +kernel
theorem dL_law_893 : decode cL_law 893 = .ok (.iconst 1, 1) := by decide +kernel
theorem dL_law_894 : decode cL_law 894 = .ok (.iadd, 1) := by decide +kernel
theorem dL_law_895 : decode cL_law 895 = .ok (.iaload, 1) := by decide +kernel
theorem dL_law_896 : decode cL_law 896 = .ok (.invokevirtual 120, 3) := by decide +kernel
theorem dL_law_899 : decode cL_law 899 = .ok (.if_icmp .eq 18, 3) := by decide +kernel
theorem dL_law_902 : decode cL_law 902 = .ok (.iconst 0, 1) := by decide +kernel
theorem dL_law_903 : decode cL_law 903 = .ok (.ireturn, 1) := by decide +kernel
theorem dL_law_904 : decode cL_law 904 = .ok (.aload_n 1, 1) := by decide +kernel
theorem dL_law_905 : decode cL_law 905 = .ok (.invokevirtual 121, 3) := by decide +kernel
theorem dL_law_908 : decode cL_law 908 = .ok (.aload_n 2, 1) := by decide +kernel
theorem dL_law_909 : decode cL_law 909 = .ok (.invokevirtual 124, 3) := by decide +kernel
theorem dL_law_912 : decode cL_law 912 = .ok (.if_icmp .eq 5, 3) := by decide +kernel
theorem dL_law_915 : decode cL_law 915 = .ok (.iconst 0, 1) := by decide +kernel
theorem dL_law_916 : decode cL_law 916 = .ok (.ireturn, 1) := by decide +kernel
theorem dL_law_917 : decode cL_law 917 = .ok (.iinc 3 4, 3) := by decide +kernel
theorem dL_law_920 : decode cL_law 920 = .ok (.goto (-902), 3) := by decide +kernel
theorem dL_law_923 : decode cL_law 923 = .ok (.iconst 1, 1) := by decide +kernel
theorem dL_law_924 : decode cL_law 924 = .ok (.ireturn, 1) := by decide +kernel
end
section
abbrev gSt : Type := Nat → Nat → Int32
abbrev gKd : Type := Nat ⊕ (Nat ⊕ Nat)
/-- the kinds of the cells: an int array of a length, an object of a class, an array of references -/
def gTr : List gKd := [.inr (.inl 7), .inr (.inl 8), .inl 20, .inl 20, .inl 20, .inl 20, .inl 20, .inl 160, .inr (.inl 0), .inl 16, .inr (.inl 4), .inl 6]
def gHd : List gKd := [.inr (.inl 9), .inr (.inl 5), .inl 20, .inr (.inl 3), .inr (.inl 2), .inl 3, .inr (.inl 6), .inl 60, .inr (.inl 1), .inr (.inr 4)]
def gMo : List gKd := [.inr (.inl 10), .inl 284, .inl 1136, .inl 284, .inl 60, .inl 13, .inl 16, .inl 3]
def gList : List gKd := gHd ++ (gTr ++ (gTr ++ (gTr ++ (gTr ++ (gTr ++ (gTr ++ (gTr ++ gMo)))))))
def gKind (k : Nat) : gKd := gList.getD k (.inl 0)
def gNs : List Nat := [1, 3, 4, 7, 1, 5, 2, 4, 7, 6, 16]
def gN (ci : Nat) : Nat := gNs.getD ci 0
def gDls : List (List Nat) := [[1], [1, 0, 0], [1, 0, 0, 0], [3, 79, 1, 0, 0, 0, 0], [1], [9, 10, 17, 19, 1], [1, 0], [1, 8, 10, 0], [1, 2, 3, 4, 5, 6, 0], [10, 22, 8, 1, 6, 3], [1, 2, 3, 0, 0, 4, 0, 5, 6, 0, 0, 0, 0, 0, 0, 7]]
def gDl (ci i : Nat) : Nat := (gDls.getD ci []).getD i 0
def gTgs : List (List gKd) := [[.inl 16], [.inr (.inr 4), .inl 0, .inl 0], [.inl 3, .inl 0, .inl 0, .inl 0], [.inr (.inl 6), .inr (.inl 7), .inr (.inl 2), .inl 0, .inl 0, .inl 0, .inl 0], [.inl 6], [.inr (.inl 7), .inr (.inl 8), .inr (.inl 0), .inr (.inl 4), .inl 20], [.inl 60, .inl 0], [.inr (.inl 8), .inr (.inl 0), .inr (.inl 4), .inl 0], [.inl 20, .inl 20, .inl 20, .inl 20, .inl 20, .inl 160, .inl 0], [.inr (.inl 7), .inr (.inl 7), .inr (.inl 1), .inr (.inl 5), .inr (.inl 6), .inr (.inl 3)], [.inl 284, .inl 1136, .inl 284, .inl 0, .inl 0, .inl 60, .inl 0, .inl 13, .inl 16, .inl 0, .inl 0, .inl 0, .inl 0, .inl 0, .inl 0, .inl 3]]
def gTg (ci i : Nat) : gKd := (gTgs.getD ci []).getD i (.inl 0)
def gR (ci : Nat) : String := match ci with
  | 0 => RX0
  | 1 => RX1
  | 2 => RX2
  | 3 => RX3
  | 4 => RX4
  | 5 => RX5
  | 6 => RX6
  | 7 => RX7
  | 8 => RX8
  | 9 => RX9
  | _ => RX10
def gT (ci : Nat) : u_T := match ci with
  | 0 => TX0
  | 1 => TX1
  | 2 => TX2
  | 3 => TX3
  | 4 => TX4
  | 5 => TX5
  | 6 => TX6
  | 7 => TX7
  | 8 => TX8
  | 9 => TX9
  | _ => TX10
def gTy (ci : Nat) : Nat → FieldType := match ci with
  | 0 => tyX0
  | 1 => tyX1
  | 2 => tyX2
  | 3 => tyX3
  | 4 => tyX4
  | 5 => tyX5
  | 6 => tyX6
  | 7 => tyX7
  | 8 => tyX8
  | 9 => tyX9
  | _ => tyX10
abbrev gQ0 : Nat := 25
abbrev gQd : Nat := 12
/-- the links between nest mates: who, where, what, whose nest -/
def gNl : List (String × Nat × MethodName × String) := [("LectureTurns", 9, ⟨"LectureTurns$Transcript", "<init>", "()V"⟩, "LectureTurns"), ("LectureTurns$Transcript", 11, ⟨"LectureTurns$Turns", "<init>", "()V"⟩, "LectureTurns"), ("LectureTurns$Transcript", 27, ⟨"LectureTurns$Speakers", "<init>", "()V"⟩, "LectureTurns"), ("LectureTurns$History", 17, ⟨"LectureTurns$Transcript", "<init>", "()V"⟩, "LectureTurns"), ("LectureTurns", 37, ⟨"LectureTurns$Text", "<init>", "()V"⟩, "LectureTurns"), ("LectureTurns$Review", 11, ⟨"LectureTurns$Transcript", "<init>", "()V"⟩, "LectureTurns"), ("LectureTurns$Review", 20, ⟨"LectureTurns$Order", "<init>", "()V"⟩, "LectureTurns"), ("LectureTurns$Transcript", 86, ⟨"LectureTurns", "isWithin", "(III)Z"⟩, "LectureTurns"), ("LectureTurns$Corrections", 27, ⟨"LectureTurns", "isWithin", "(III)Z"⟩, "LectureTurns"), ("LectureTurns$Turns", 59, ⟨"LectureTurns", "isWithin", "(III)Z"⟩, "LectureTurns"), ("LectureTurns$Speakers", 25, ⟨"LectureTurns", "isWithin", "(III)Z"⟩, "LectureTurns"), ("LectureTurns$Survey", 71, ⟨"LectureTurns", "isWithin", "(III)Z"⟩, "LectureTurns"), ("LectureTurns$Text", 23, ⟨"LectureTurns", "isWithin", "(III)Z"⟩, "LectureTurns"), ("LectureTurns$Order", 39, ⟨"LectureTurns", "isWithin", "(III)Z"⟩, "LectureTurns")]
def gNf : List (String × Nat × String × String × String × String) := [("LectureTurns$Survey", 19, "LectureTurns$Transcript", "turns", "LLectureTurns$Turns;", "LectureTurns"), ("LectureTurns$Survey", 26, "LectureTurns$Transcript", "corrections", "LLectureTurns$Corrections;", "LectureTurns"), ("LectureTurns$Survey", 31, "LectureTurns$Transcript", "speakers", "LLectureTurns$Speakers;", "LectureTurns")]
def gTb : List Cond := lw_tbl.filter goodWord
theorem gM {w : Cond} (i : Nat) (h : lw_tbl[i]? = some w) (g : goodWord w = true) : w ∈ gTb := List.mem_filter.mpr ⟨List.mem_of_getElem? h, g⟩
theorem gTbG {w : Cond} (h : w ∈ gTb) : (w.onTables && w.keeps) = true ∨ ∃ ty, w = .arrayClass ty := good_of_word (List.mem_filter.mp h).2
theorem gGood {ws : List Cond} (h : ∀ w ∈ ws, w ∈ gTb) : GoodIn gTb ws := fun w hw => ⟨h w hw, gTbG (h w hw)⟩
theorem gGoodC {w : Cond} (h : w ∈ gTb) : ∀ v ∈ w :: gTb, v ∈ gTb := fun v hv => by
  rcases List.mem_cons.mp hv with rfl | q
  · exact h
  · exact q
theorem gIn0 : ∀ w ∈ u_ws RX0 TX0 1, w ∈ gTb := by decide +kernel
theorem gIn1 : ∀ w ∈ u_ws RX1 TX1 3, w ∈ gTb := by decide +kernel
theorem gIn2 : ∀ w ∈ u_ws RX2 TX2 4, w ∈ gTb := by decide +kernel
theorem gIn3 : ∀ w ∈ u_ws RX3 TX3 7, w ∈ gTb := by decide +kernel
theorem gIn4 : ∀ w ∈ u_ws RX4 TX4 1, w ∈ gTb := by decide +kernel
theorem gIn5 : ∀ w ∈ u_ws RX5 TX5 5, w ∈ gTb := by decide +kernel
theorem gIn6 : ∀ w ∈ u_ws RX6 TX6 2, w ∈ gTb := by decide +kernel
theorem gIn7 : ∀ w ∈ u_ws RX7 TX7 4, w ∈ gTb := by decide +kernel
theorem gIn8 : ∀ w ∈ u_ws RX8 TX8 7, w ∈ gTb := by decide +kernel
theorem gIn9 : ∀ w ∈ u_ws RX9 TX9 6, w ∈ gTb := by decide +kernel
theorem gIn10 : ∀ w ∈ u_ws RX10 TX10 16, w ∈ gTb := by decide +kernel
theorem g11 {P : Nat → Prop} (h0 : P 0) (h1 : P 1) (h2 : P 2) (h3 : P 3) (h4 : P 4) (h5 : P 5) (h6 : P 6) (h7 : P 7) (h8 : P 8) (h9 : P 9) (h10 : P 10) (ci : Nat) (h : ci < 11) : P ci := by
  match ci, h with
  | 0, _ => exact h0
  | 1, _ => exact h1
  | 2, _ => exact h2
  | 3, _ => exact h3
  | 4, _ => exact h4
  | 5, _ => exact h5
  | 6, _ => exact h6
  | 7, _ => exact h7
  | 8, _ => exact h8
  | 9, _ => exact h9
  | 10, _ => exact h10
  | n + 11, h => exact absurd h (by omega)
theorem gIn (ci : Nat) (h : ci < 11) : ∀ w ∈ u_ws (gR ci) (gT ci) (gN ci), w ∈ gTb := g11 (P := fun ci => ∀ w ∈ u_ws (gR ci) (gT ci) (gN ci), w ∈ gTb) gIn0 gIn1 gIn2 gIn3 gIn4 gIn5 gIn6 gIn7 gIn8 gIn9 gIn10 ci h
theorem gCl (ci : Nat) (h : ci < 11) : vwCl[ci]? = some (gR ci, gT ci, gN ci) := g11 (P := fun ci => vwCl[ci]? = some (gR ci, gT ci, gN ci)) rfl rfl rfl rfl rfl rfl rfl rfl rfl rfl rfl ci h
theorem gTyOk (ci : Nat) (h : ci < 11) : ∀ k, k < gN ci → parseFieldDescriptor (gT ci k).2.2.1 = some (gTy ci k) := g11 (P := fun ci => ∀ k, k < gN ci → parseFieldDescriptor (gT ci k).2.2.1 = some (gTy ci k)) tyX0_ok tyX1_ok tyX2_ok tyX3_ok tyX4_ok tyX5_ok tyX6_ok tyX7_ok tyX8_ok tyX9_ok tyX10_ok ci h
theorem gNm (ci : Nat) (h : ci < 11) : ∀ a, a < gN ci → ∀ b, b < gN ci → a ≠ b → (gT ci a).2.1 ≠ (gT ci b).2.1 := g11 (P := fun ci => ∀ a, a < gN ci → ∀ b, b < gN ci → a ≠ b → (gT ci a).2.1 ≠ (gT ci b).2.1) nmX0 nmX1 nmX2 nmX3 nmX4 nmX5 nmX6 nmX7 nmX8 nmX9 nmX10 ci h
/-- cells by kind -/
def isA (k n : Nat) : Prop := k < 102 ∧ gKind k = .inl n
def isO (k ci : Nat) : Prop := k < 102 ∧ gKind k = .inr (.inl ci)
def isQ (k n : Nat) : Prop := k < 102 ∧ gKind k = .inr (.inr n)
def gChk1 (k : Nat) : Bool := match gKind k with
  | .inr (.inl ci) => (List.range (gN ci)).all fun i => Nat.beq (gDl ci i) 0 || (decide (k + gDl ci i < 102) && decide (gKind (k + gDl ci i) = gTg ci i))
  | _ => true
theorem gChk1_all : (List.range 102).all gChk1 = true := by decide +kernel
theorem gTab1 (k : Nat) (hk : k < 102) (ci : Nat) (hg : gKind k = .inr (.inl ci)) (i : Nat) (hi : i < gN ci) (h0 : gDl ci i ≠ 0) : k + gDl ci i < 102 ∧ gKind (k + gDl ci i) = gTg ci i := by
  have h := List.all_eq_true.mp gChk1_all k (List.mem_range.mpr hk)
  unfold gChk1 at h
  rw [hg] at h
  have h2 := List.all_eq_true.mp h i (List.mem_range.mpr hi)
  have h3 : Nat.beq (gDl ci i) 0 = false := by
    cases hq : gDl ci i with
    | zero => exact absurd hq h0
    | succ n => rfl
  rw [h3, Bool.false_or, Bool.and_eq_true] at h2
  exact ⟨of_decide_eq_true h2.1, of_decide_eq_true h2.2⟩
theorem gTab2 : ∀ k, k < 102 → gKind k = .inr (.inr 4) → ∀ j, j < 4 → k + gQ0 + gQd * j < 102 ∧ gKind (k + gQ0 + gQd * j) = .inr (.inl 7) := by decide +kernel
theorem gToA {k ci : Nat} (hk : isO k ci) (i d n : Nat) (h1 : ci < 11) (h2 : i < gN ci) (h3 : gDl ci i = d) (h4 : d ≠ 0) (h5 : gTg ci i = .inl n) : isA (k + d) n := by
  subst h3
  obtain ⟨a, b⟩ := gTab1 k hk.1 ci hk.2 i h2 h4
  exact ⟨a, b.trans h5⟩
theorem gToO {k ci : Nat} (hk : isO k ci) (i d cj : Nat) (h1 : ci < 11) (h2 : i < gN ci) (h3 : gDl ci i = d) (h4 : d ≠ 0) (h5 : gTg ci i = .inr (.inl cj)) : isO (k + d) cj := by
  subst h3
  obtain ⟨a, b⟩ := gTab1 k hk.1 ci hk.2 i h2 h4
  exact ⟨a, b.trans h5⟩
theorem gToQ {k ci : Nat} (hk : isO k ci) (i d n : Nat) (h1 : ci < 11) (h2 : i < gN ci) (h3 : gDl ci i = d) (h4 : d ≠ 0) (h5 : gTg ci i = .inr (.inr n)) : isQ (k + d) n := by
  subst h3
  obtain ⟨a, b⟩ := gTab1 k hk.1 ci hk.2 i h2 h4
  exact ⟨a, b.trans h5⟩
/-- what is the same for a whole run: the classes' numbers, the array classes, the addresses of the cells, where the heap began -/
abbrev gG : Type := va_G × ClassId × ClassId × (Nat → Nat) × Nat
abbrev gAd (G : gG) : Nat → Nat := G.2.2.2.1
abbrev gH0 (G : gG) : Nat := G.2.2.2.2
def gFv (ad : Nat → Nat) (f : Nat → Int32) (k ci i : Nat) : Value := bif Nat.beq (gDl ci i) 0 then .int (f i) else .ref (ad (k + gDl ci i))
def gFs (ad : Nat → Nat) (f : Nat → Int32) (k ci : Nat) : List Value := (List.range (gN ci)).map (gFv ad f k ci)
def gCel (G : gG) (f : Nat → Int32) (k : Nat) : va_E := match gKind k with
  | .inl n => .inl (G.2.1, n, .inl f)
  | .inr (.inl ci) => .inr (ci, gFs (gAd G) f k ci)
  | .inr (.inr n) => .inl (G.2.2.1, n, .inr (.inr (.inr (.inr (fun j => some (gAd G (k + gQ0 + gQd * j)))))))
def gWs (G : gG) (σ : gSt) : va_W := (List.range 102).map (fun k => (gAd G k, gCel G (σ k) k))
def gAp (G : gG) : Prop := (∀ i j, i < 102 → j < 102 → gAd G i = gAd G j → i = j) ∧ ∀ i, i < 102 → gH0 G ≤ gAd G i
theorem gWsAt {G : gG} {σ : gSt} {k : Nat} (hk : k < 102) : (gWs G σ)[k]? = some (gAd G k, gCel G (σ k) k) := by simp [gWs, hk]
theorem gWsA {G : gG} {σ : gSt} {k n : Nat} (hk : isA k n) : (gWs G σ)[k]? = some (gAd G k, .inl (G.2.1, n, .inl (σ k))) := by
  rw [gWsAt hk.1, gCel, hk.2]
theorem gWsO {G : gG} {σ : gSt} {k ci : Nat} (hk : isO k ci) : (gWs G σ)[k]? = some (gAd G k, .inr (ci, gFs (gAd G) (σ k) k ci)) := by
  rw [gWsAt hk.1, gCel, hk.2]
theorem gWsQ {G : gG} {σ : gSt} {k n : Nat} (hk : isQ k n) : (gWs G σ)[k]? = some (gAd G k, .inl (G.2.2.1, n, .inr (.inr (.inr (.inr (fun j => some (gAd G (k + gQ0 + gQd * j)))))))) := by
  rw [gWsAt hk.1, gCel, hk.2]
theorem gFsI {ad : Nat → Nat} {f : Nat → Int32} {k ci i : Nat} (hi : i < gN ci) (hd : gDl ci i = 0) : (gFs ad f k ci)[i]? = some (.int (f i)) := by
  simp [gFs, hi, gFv, hd]
theorem gFsR {ad : Nat → Nat} {f : Nat → Int32} {k ci i d : Nat} (hi : i < gN ci) (hd : gDl ci i = d) (h0 : d ≠ 0) : (gFs ad f k ci)[i]? = some (.ref (ad (k + d))) := by
  have hb : Nat.beq d 0 = false := by cases d with
    | zero => exact absurd rfl h0
    | succ n => rfl
  simp [gFs, hi, gFv, hd, hb]
theorem gFsL {ad : Nat → Nat} {f : Nat → Int32} {k ci : Nat} : (gFs ad f k ci).length = gN ci := by simp [gFs]
/-- one cell's contents anew -/
def gu (σ : gSt) (k : Nat) (f : Nat → Int32) : gSt := fun j => if j = k then f else σ j
theorem gu_s (σ : gSt) (k : Nat) (f : Nat → Int32) : gu σ k f k = f := if_pos rfl
theorem gu_n (σ : gSt) {k j : Nat} (f : Nat → Int32) (h : j ≠ k) : gu σ k f j = σ j := if_neg h
theorem gWsU {G : gG} {σ : gSt} {k : Nat} {f : Nat → Int32} {e : va_E} (hk : k < 102) (he : gCel G f k = e) : (gWs G σ).set k (gAd G k, e) = gWs G (gu σ k f) := by
  apply List.ext_getElem?
  intro j
  by_cases hj : j < 102
  · rw [gWsAt hj]
    by_cases hjk : j = k
    · subst hjk
      rw [List.getElem?_set_self (by simp [gWs]; exact hj), gu_s, he]
    · rw [List.getElem?_set_ne (fun q => hjk q.symm), gWsAt hj, gu_n _ _ hjk]
  · have h1 : (gWs G (gu σ k f)).length ≤ j := by simp [gWs]; omega
    have h2 : ((gWs G σ).set k (gAd G k, e)).length ≤ j := by simp [gWs]; omega
    rw [List.getElem?_eq_none h1, List.getElem?_eq_none h2]
theorem gCelA {G : gG} {f : Nat → Int32} {k n : Nat} (hk : isA k n) : gCel G f k = .inl (G.2.1, n, .inl f) := by rw [gCel, hk.2]
theorem gCelO {G : gG} {f : Nat → Int32} {k ci i : Nat} {v : Int32} (hk : isO k ci) (hi : i < gN ci) (hd : gDl ci i = 0) : gCel G (upd f i v) k = .inr (ci, (gFs (gAd G) f k ci).set i (.int v)) := by
  rw [gCel, hk.2]
  show (Sum.inr (ci, gFs (gAd G) (upd f i v) k ci) : va_E) = _
  refine congrArg (fun l => (Sum.inr (ci, l) : va_E)) ?_
  apply List.ext_getElem?
  intro j
  by_cases hj : j < gN ci
  · by_cases hji : j = i
    · subst hji
      rw [List.getElem?_set_self (by rw [gFsL]; exact hi), gFsI hi hd]
      simp [upd]
    · rw [List.getElem?_set_ne (fun q => hji q.symm)]
      simp [gFs, hj, gFv, upd, hji]
  · rw [List.getElem?_eq_none (by rw [gFsL]; omega), List.getElem?_eq_none (by rw [List.length_set, gFsL]; omega)]
theorem gDs {G : gG} (h : gAp G) (σ : gSt) : va_D (fun q => gH0 G ≤ q) (gWs G σ) := by
  have hlt : ∀ (k : Nat) (q : Nat × va_E), (gWs G σ)[k]? = some q → k < 102 ∧ q.1 = gAd G k := by
    intro k q hq
    have hk : k < 102 := by
      have := (List.getElem?_eq_some_iff.mp hq).1
      simpa [gWs] using this
    rw [gWsAt hk] at hq
    cases hq
    exact ⟨hk, rfl⟩
  refine ⟨fun i j p q hp hq he => ?_, fun k q hq => ?_⟩
  · obtain ⟨h1, e1⟩ := hlt i p hp
    obtain ⟨h2, e2⟩ := hlt j q hq
    exact h.1 i j h1 h2 (by rw [← e1, ← e2, he])
  · obtain ⟨h1, e1⟩ := hlt k q hq
    show gH0 G ≤ q.1
    rw [e1]
    exact h.2 k h1
end
section
/-! ===== a point of a method's walk, over a pure computation ===== -/
abbrev gX (ρ : Type) : Type := gG × (Program × Launch × Env × Room × State) × (MethodId × Array Value × List Frame × Method × Code) × (Nat × Nat) × (ρ → State → Prop)
def gFx (G : gG) (U : State) : Prop := va_K G.1 vwCl [(G.2.1, .int), (G.2.2.1, .object RX7)] U ∧ (∀ q ∈ gNl, va_Nw (.methodLinkNest q.1 q.2.1 q.2.2.1 q.2.2.2) U) ∧ gAp G
/-- the locals, by their places -/
def gL (ls : Array Slot) (L : List (Option Value)) : Prop := ls.size = L.length ∧ lv_wf ls ∧ ∀ (i : Nat) (v : Value), L[i]? = some (some v) → ls[i]? = some (.val v) ∧ v.category = 1
def gAl (L : List (Option Value)) : List (Nat × Value) := (List.range L.length).filterMap fun i => match L[i]? with
  | some (some v) => some (i, v)
  | _ => none
theorem gAlM {L : List (Option Value)} {i : Nat} {v : Value} : (i, v) ∈ gAl L ↔ L[i]? = some (some v) := by
  constructor
  · intro h
    obtain ⟨j, -, hj⟩ := List.mem_filterMap.mp h
    cases hq : L[j]? with
    | none =>
      rw [hq] at hj
      cases hj
    | some ov =>
      rw [hq] at hj
      cases ov with
      | none => cases hj
      | some vv =>
        have e : (j, vv) = (i, v) := Option.some.inj hj
        cases e
        exact hq
  · intro h
    refine List.mem_filterMap.mpr ⟨i, List.mem_range.mpr (List.getElem?_eq_some_iff.mp h).1, ?_⟩
    rw [h]
theorem gLh {ls : Array Slot} {L : List (Option Value)} (h : gL ls L) : lv_has ls L.length (gAl L) := ⟨h.1, h.2.1, fun q hq => (h.2.2 q.1 q.2 (gAlM.mp hq)).1⟩
theorem gLs {ls ls' : Array Slot} {L L' : List (Option Value)} {i : Nat} {v : Value} (h : gL ls L) (hc : v.category = 1) (hL : L.set i (some v) = L')
    (h' : lv_has ls' L.length ((i, v) :: (gAl L).filter (fun q => !(q.1 == i) && !(q.1 + 1 == i && q.2.category == 2)))) : gL ls' L' := by
  subst hL
  refine ⟨by rw [h'.1, List.length_set], h'.2.1, fun j w hj => ?_⟩
  by_cases hji : j = i
  · subst hji
    have hlt : j < L.length := by
      have := (List.getElem?_eq_some_iff.mp hj).1
      simpa using this
    rw [List.getElem?_set_self hlt] at hj
    cases hj
    exact ⟨h'.2.2 (j, v) List.mem_cons_self, hc⟩
  · rw [List.getElem?_set_ne (fun q => hji q.symm)] at hj
    have hw := (h.2.2 j w hj).2
    refine ⟨h'.2.2 (j, w) (List.mem_cons_of_mem _ (List.mem_filter.mpr ⟨gAlM.mpr hj, ?_⟩)), hw⟩
    simp [hji, hw]
/-- some places are forgotten -/
theorem gLw {ls : Array Slot} {L L' : List (Option Value)} (h : gL ls L) (hn : L'.length = L.length) (hs : ∀ (i : Nat) (v : Value), L'[i]? = some (some v) → L[i]? = some (some v)) : gL ls L' := ⟨h.1.trans hn.symm, h.2.1, fun i v hv => h.2.2 i v (hs i v hv)⟩
def gLe : List (Option Value) → List (Option Value) → Prop
  | [], [] => True
  | none :: l', _ :: l => gLe l' l
  | some v' :: l', some v :: l => v' = v ∧ gLe l' l
  | _, _ => False
theorem gLe_get : ∀ (L' L : List (Option Value)), gLe L' L → L'.length = L.length ∧ ∀ (i : Nat) (v : Value), L'[i]? = some (some v) → L[i]? = some (some v)
  | [], [], _ => ⟨rfl, fun _ _ h => h⟩
  | [], _ :: _, h => h.elim
  | none :: _, [], h => h.elim
  | some _ :: _, [], h => h.elim
  | none :: l', w :: l, h => by
    obtain ⟨h1, h2⟩ := gLe_get l' l h
    refine ⟨by simp [h1], fun i v hv => ?_⟩
    cases i with
    | zero => simp at hv
    | succ i => exact h2 i v (by simpa using hv)
  | some _ :: _, none :: _, h => h.elim
  | some v' :: l', some w :: l, h => by
    obtain ⟨h1, h2⟩ := gLe_get l' l h.2
    refine ⟨by simp [h1], fun i v hv => ?_⟩
    cases i with
    | zero => rw [← h.1]; exact hv
    | succ i => exact h2 i v (by simpa using hv)
/-- AT a point of a method, over the state σ: if what is still to be computed ends, with r, the machine comes to what r promises -/
def At {ρ : Type} (Γ : gX ρ) (pc : Nat) (L : List (Option Value)) (st : List Value) (σ : gSt) (o : Option ρ) : Prop :=
  ∀ r, o = some r → ∀ (H : Heap) (locs : List Loc) (ls : Array Slot), va_P Γ.1.1 vwCl (gWs Γ.1 σ) H → va_S (fun q => gH0 Γ.1 ≤ q) Γ.2.1.2.2.2.2.heap H locs → gL ls L →
    W Γ.2.1.1 Γ.2.1.2.1 Γ.2.1.2.2.1 Γ.2.1.2.2.2.1 Γ.2.1.2.2.2.2 Γ.2.2.1.1 Γ.2.2.1.2.1 Γ.2.2.1.2.2.1 Γ.2.2.1.2.2.2.1 Γ.2.2.1.2.2.2.2 H locs Γ.2.2.2.1.1 Γ.2.2.2.1.2 (Γ.2.2.2.2 r) (F0 Γ.2.2.1.1 pc ls st)
/-- what stands all through a method -/
def gOk {ρ : Type} (Γ : gX ρ) (cc : ByteArray) (nL : Nat) (own : String) (ret : Option FieldType) (fr lo : Nat) : Prop :=
  Γ.2.1.1.tables.exec = Jvm.exec ∧ Γ.2.2.1.2.2.2.2.code = cc ∧ Γ.2.2.1.2.2.2.2.maxLocals = nL ∧ Γ.2.1.2.2.2.2.vm.findClass own = some Γ.2.2.1.1.cls ∧
  (∀ w ∈ gTb, w.before Γ.2.2.1.2.1 Γ.2.1.2.2.2.2 = true) ∧ gFx Γ.1 Γ.2.1.2.2.2.2 ∧ Γ.2.2.1.2.2.2.1.sig.returnType = ret ∧ Γ.2.2.1.2.2.2.1.locks = false ∧
  fr ≤ Γ.2.1.2.2.2.1.frames ∧ lo ≤ Γ.2.1.2.2.2.1.locals ∧ Γ.2.2.2.1.1 ≤ Γ.2.1.2.2.2.1.cells ∧ Γ.2.2.2.1.2 ≤ Γ.2.1.2.2.2.1.slots
/-- a name for a value -/
def lt {α β : Type} (x : α) (f : α → β) : β := f x
def b2 {α β ρ : Type} (o : Option (α × β)) (f : α → β → Option ρ) : Option ρ := o.bind fun x => f x.1 x.2
def rd (n : Nat) (σ : gSt) (k : Nat) (i : Int32) : Option Int32 := if i < 0 ∨ n ≤ i.toNatClampNeg then none else some (σ k i.toNatClampNeg)
def wr (n : Nat) (σ : gSt) (k : Nat) (i v : Int32) : Option gSt := if i < 0 ∨ n ≤ i.toNatClampNeg then none else some (gu σ k (upd (σ k) i.toNatClampNeg v))
def rdq (n : Nat) (k : Nat) (i : Int32) : Option Nat := if i < 0 ∨ n ≤ i.toNatClampNeg then none else some (k + gQ0 + gQd * i.toNatClampNeg)
def dv (x y : Int32) : Option Int32 := if y = 0 then none else some (x / y)
def rm (x y : Int32) : Option Int32 := if y = 0 then none else some (x - x / y * y)
def fop (z : UInt32) : Option UInt32 := if z &&& 0x7fffffff ≤ 0x7f800000 then some z else none
def cpy (n0 n1 : Nat) (σ : gSt) (k0 : Nat) (sp : Int32) (k1 : Nat) (dp n : Int32) : Option gSt :=
  if sp < 0 ∨ dp < 0 ∨ n < 0 ∨ n0 < sp.toNatClampNeg + n.toNatClampNeg ∨ n1 < dp.toNatClampNeg + n.toNatClampNeg then none
  else some (gu σ k1 (va_cpy (σ k0) (σ k1) sp.toNatClampNeg dp.toNatClampNeg n.toNatClampNeg))
def zb (v : Int32) : Option Int32 := if v = 0 ∨ v = 1 then some v else none
theorem some_bind {α β : Type} {o : Option α} {f : α → Option β} {r : β} (h : o.bind f = some r) : ∃ a, o = some a ∧ f a = some r := Option.bind_eq_some_iff.mp h
theorem some_b2 {α β ρ : Type} {o : Option (α × β)} {f : α → β → Option ρ} {r : ρ} (h : b2 o f = some r) : ∃ a b, o = some (a, b) ∧ f a b = some r := by
  obtain ⟨⟨a, b⟩, h1, h2⟩ := some_bind h
  exact ⟨a, b, h1, h2⟩
theorem some_if {ρ : Type} {c : Prop} [Decidable c] {x r : ρ} (h : (if c then none else some x) = some r) : ¬ c ∧ x = r := by
  split at h
  · cases h
  · next hc => exact ⟨hc, by cases h; rfl⟩
theorem some_ifp {ρ : Type} {c : Prop} [Decidable c] {x r : ρ} (h : (if c then some x else none) = some r) : c ∧ x = r := by
  split at h
  · next hc => exact ⟨hc, by cases h; rfl⟩
  · cases h
section Rows
variable {ρ : Type} {Γ : gX ρ} {cc : ByteArray} {nL : Nat} {own : String} {ret : Option FieldType} {fr lo : Nat} {pc : Nat} {L : List (Option Value)} {st : List Value} {σ : gSt} {o : Option ρ}
theorem At.weak {L' : List (Option Value)} (hl : gLe L' L) (k : At Γ pc L' st σ o) : At Γ pc L st σ o :=
  fun r hr H locs ls hP hS hL => k r hr H locs ls hP hS (gLw hL (gLe_get L' L hl).1 (gLe_get L' L hl).2)
theorem x_iload_n (h : gOk Γ cc nL own ret fr lo) {k : Fin 4} {i : Nat} {x : Int32} (hd : decode cc pc = .ok (.iload_n k, 1)) (hi : (k : Nat) = i) (hl : L[i]? = some (some (.int x))) (kk : At Γ (pc + 1) L (.int x :: st) σ o) : At Γ pc L st σ o :=
  fun r hr H locs ls hP hS hL => lv_iload_n h.1 h.2.1 hd hi (hL.2.2 i _ hl).1 (kk r hr H locs ls hP hS hL)
theorem x_iload (h : gOk Γ cc nL own ret fr lo) {i : Nat} {x : Int32} (hd : decode cc pc = .ok (.iload i, 2)) (hl : L[i]? = some (some (.int x))) (kk : At Γ (pc + 2) L (.int x :: st) σ o) : At Γ pc L st σ o :=
  fun r hr H locs ls hP hS hL => lv_iload h.1 h.2.1 hd (hL.2.2 i _ hl).1 (kk r hr H locs ls hP hS hL)
theorem x_fload_n (h : gOk Γ cc nL own ret fr lo) {k : Fin 4} {i : Nat} {x : UInt32} (hd : decode cc pc = .ok (.fload_n k, 1)) (hi : (k : Nat) = i) (hl : L[i]? = some (some (.float x))) (kk : At Γ (pc + 1) L (.float x :: st) σ o) : At Γ pc L st σ o :=
  fun r hr H locs ls hP hS hL => lv_fload_n h.1 h.2.1 hd hi (hL.2.2 i _ hl).1 (kk r hr H locs ls hP hS hL)
theorem x_aload_n (h : gOk Γ cc nL own ret fr lo) {k : Fin 4} {i : Nat} {x : Nat} (hd : decode cc pc = .ok (.aload_n k, 1)) (hi : (k : Nat) = i) (hl : L[i]? = some (some (.ref x))) (kk : At Γ (pc + 1) L (.ref x :: st) σ o) : At Γ pc L st σ o :=
  fun r hr H locs ls hP hS hL => lv_aload_n h.1 h.2.1 hd hi (hL.2.2 i _ hl).1 (kk r hr H locs ls hP hS hL)
theorem x_istore_n (h : gOk Γ cc nL own ret fr lo) {k : Fin 4} {i : Nat} {x : Int32} {L' : List (Option Value)} (hd : decode cc pc = .ok (.istore_n k, 1)) (hi : (k : Nat) = i) (hn : i < L.length) (hl : L.set i (some (.int x)) = L') (kk : At Γ (pc + 1) L' st σ o) : At Γ pc L (.int x :: st) σ o :=
  fun r hr H locs ls hP hS hL => lv_istore_n h.1 h.2.1 hd hi (gLh hL) hn rfl (fun ls' h' => kk r hr H locs ls' hP hS (gLs hL rfl hl h'))
theorem x_istore (h : gOk Γ cc nL own ret fr lo) {i : Nat} {x : Int32} {L' : List (Option Value)} (hd : decode cc pc = .ok (.istore i, 2)) (hn : i < L.length) (hl : L.set i (some (.int x)) = L') (kk : At Γ (pc + 2) L' st σ o) : At Γ pc L (.int x :: st) σ o :=
  fun r hr H locs ls hP hS hL => lv_istore h.1 h.2.1 hd (gLh hL) hn rfl (fun ls' h' => kk r hr H locs ls' hP hS (gLs hL rfl hl h'))
theorem x_fstore_n (h : gOk Γ cc nL own ret fr lo) {k : Fin 4} {i : Nat} {x : UInt32} {L' : List (Option Value)} (hd : decode cc pc = .ok (.fstore_n k, 1)) (hi : (k : Nat) = i) (hn : i < L.length) (hl : L.set i (some (.float x)) = L') (kk : At Γ (pc + 1) L' st σ o) : At Γ pc L (.float x :: st) σ o :=
  fun r hr H locs ls hP hS hL => lv_fstore_n h.1 h.2.1 hd hi (gLh hL) hn rfl (fun ls' h' => kk r hr H locs ls' hP hS (gLs hL rfl hl h'))
theorem x_iinc (h : gOk Γ cc nL own ret fr lo) {i : Nat} {n : Int} {x v : Int32} {L' : List (Option Value)} (hd : decode cc pc = .ok (.iinc i n, 3)) (hk : L[i]? = some (some (.int x))) (hv : x + Int32.ofInt n = v) (hl : L.set i (some (.int v)) = L') (kk : At Γ (pc + 3) L' st σ o) : At Γ pc L st σ o := by
  intro r hr H locs ls hP hS hL
  obtain ⟨j, hj⟩ := List.getElem?_of_mem (gAlM.mpr hk)
  exact lv_iinc h.1 h.2.1 hd (gLh hL) hj hv (List.getElem?_eq_some_iff.mp hk).1 rfl (fun ls' h' => kk r hr H locs ls' hP hS (gLs hL rfl hl h'))
theorem x_iconst (h : gOk Γ cc nL own ret fr lo) {n : Int} {v : Int32} (hd : decode cc pc = .ok (.iconst n, 1)) (hv : Int32.ofInt n = v) (kk : At Γ (pc + 1) L (.int v :: st) σ o) : At Γ pc L st σ o :=
  fun r hr H locs ls hP hS hL => lv_iconst h.1 h.2.1 hd hv (kk r hr H locs ls hP hS hL)
theorem x_bipush (h : gOk Γ cc nL own ret fr lo) {n : Int} {v : Int32} (hd : decode cc pc = .ok (.bipush n, 2)) (hv : (Int8.ofInt n).toInt32 = v) (kk : At Γ (pc + 2) L (.int v :: st) σ o) : At Γ pc L st σ o :=
  fun r hr H locs ls hP hS hL => lv_bipush h.1 h.2.1 hd hv (kk r hr H locs ls hP hS hL)
theorem x_sipush (h : gOk Γ cc nL own ret fr lo) {n : Int} {v : Int32} (hd : decode cc pc = .ok (.sipush n, 3)) (hv : (Int16.ofInt n).toInt32 = v) (kk : At Γ (pc + 3) L (.int v :: st) σ o) : At Γ pc L st σ o :=
  fun r hr H locs ls hP hS hL => lv_sipush h.1 h.2.1 hd hv (kk r hr H locs ls hP hS hL)
theorem x_ldc (h : gOk Γ cc nL own ret fr lo) {index : Nat} {v : Int32} (hw : Cond.constant own index v ∈ gTb) (hd : decode cc pc = .ok (.ldc index, 2)) (kk : At Γ (pc + 2) L (.int v :: st) σ o) : At Γ pc L st σ o :=
  fun r hr H locs ls hP hS hL => lv_ldc h.1 h.2.1 h.2.2.2.1 (h.2.2.2.2.1 _ hw) hd (kk r hr H locs ls hP hS hL)
theorem x_ldcw (h : gOk Γ cc nL own ret fr lo) {index : Nat} {v : Int32} (hw : Cond.constant own index v ∈ gTb) (hd : decode cc pc = .ok (.ldc_w index, 3)) (kk : At Γ (pc + 3) L (.int v :: st) σ o) : At Γ pc L st σ o :=
  fun r hr H locs ls hP hS hL => lv_ldcw h.1 h.2.1 h.2.2.2.1 (h.2.2.2.2.1 _ hw) hd (kk r hr H locs ls hP hS hL)
theorem x_ldcf (h : gOk Γ cc nL own ret fr lo) {index : Nat} {v : UInt32} (hw : Cond.constantFloat own index v ∈ gTb) (hd : decode cc pc = .ok (.ldc index, 2)) (kk : At Γ (pc + 2) L (.float v :: st) σ o) : At Γ pc L st σ o :=
  fun r hr H locs ls hP hS hL => lv_ldcf h.1 h.2.1 h.2.2.2.1 (h.2.2.2.2.1 _ hw) hd (kk r hr H locs ls hP hS hL)
theorem x_fconst0 (h : gOk Γ cc nL own ret fr lo) (hd : decode cc pc = .ok (.fconst 0, 1)) (kk : At Γ (pc + 1) L (.float FP.fconst0 :: st) σ o) : At Γ pc L st σ o :=
  fun r hr H locs ls hP hS hL => lv_fconst0 h.1 h.2.1 hd (kk r hr H locs ls hP hS hL)
theorem x_fconst1 (h : gOk Γ cc nL own ret fr lo) (hd : decode cc pc = .ok (.fconst 1, 1)) (kk : At Γ (pc + 1) L (.float FP.fconst1 :: st) σ o) : At Γ pc L st σ o :=
  fun r hr H locs ls hP hS hL => lv_fconst1 h.1 h.2.1 hd (kk r hr H locs ls hP hS hL)
theorem x_fconst2 (h : gOk Γ cc nL own ret fr lo) (hd : decode cc pc = .ok (.fconst 2, 1)) (kk : At Γ (pc + 1) L (.float FP.fconst2 :: st) σ o) : At Γ pc L st σ o :=
  fun r hr H locs ls hP hS hL => lv_fconst2 h.1 h.2.1 hd (kk r hr H locs ls hP hS hL)
theorem x_iadd (h : gOk Γ cc nL own ret fr lo) {x y : Int32} (hd : decode cc pc = .ok (.iadd, 1)) (kk : At Γ (pc + 1) L (.int (x + y) :: st) σ o) : At Γ pc L (.int y :: .int x :: st) σ o :=
  fun r hr H locs ls hP hS hL => lv_iadd h.1 h.2.1 hd (kk r hr H locs ls hP hS hL)
theorem x_isub (h : gOk Γ cc nL own ret fr lo) {x y : Int32} (hd : decode cc pc = .ok (.isub, 1)) (kk : At Γ (pc + 1) L (.int (x - y) :: st) σ o) : At Γ pc L (.int y :: .int x :: st) σ o :=
  fun r hr H locs ls hP hS hL => lv_isub h.1 h.2.1 hd (kk r hr H locs ls hP hS hL)
theorem x_imul (h : gOk Γ cc nL own ret fr lo) {x y : Int32} (hd : decode cc pc = .ok (.imul, 1)) (kk : At Γ (pc + 1) L (.int (x * y) :: st) σ o) : At Γ pc L (.int y :: .int x :: st) σ o :=
  fun r hr H locs ls hP hS hL => lv_imul h.1 h.2.1 hd (kk r hr H locs ls hP hS hL)
theorem x_iand (h : gOk Γ cc nL own ret fr lo) {x y : Int32} (hd : decode cc pc = .ok (.iand, 1)) (kk : At Γ (pc + 1) L (.int (x &&& y) :: st) σ o) : At Γ pc L (.int y :: .int x :: st) σ o :=
  fun r hr H locs ls hP hS hL => lv_iand h.1 h.2.1 hd (kk r hr H locs ls hP hS hL)
theorem x_ior (h : gOk Γ cc nL own ret fr lo) {x y : Int32} (hd : decode cc pc = .ok (.ior, 1)) (kk : At Γ (pc + 1) L (.int (x ||| y) :: st) σ o) : At Γ pc L (.int y :: .int x :: st) σ o :=
  fun r hr H locs ls hP hS hL => lv_ior h.1 h.2.1 hd (kk r hr H locs ls hP hS hL)
theorem x_ixor (h : gOk Γ cc nL own ret fr lo) {x y : Int32} (hd : decode cc pc = .ok (.ixor, 1)) (kk : At Γ (pc + 1) L (.int (x ^^^ y) :: st) σ o) : At Γ pc L (.int y :: .int x :: st) σ o :=
  fun r hr H locs ls hP hS hL => lv_ixor h.1 h.2.1 hd (kk r hr H locs ls hP hS hL)
theorem x_ineg (h : gOk Γ cc nL own ret fr lo) {x : Int32} (hd : decode cc pc = .ok (.ineg, 1)) (kk : At Γ (pc + 1) L (.int (-x) :: st) σ o) : At Γ pc L (.int x :: st) σ o :=
  fun r hr H locs ls hP hS hL => lv_ineg h.1 h.2.1 hd (kk r hr H locs ls hP hS hL)
theorem x_ishl (h : gOk Γ cc nL own ret fr lo) {x y : Int32} (hd : decode cc pc = .ok (.ishl, 1)) (kk : At Γ (pc + 1) L (.int (x <<< (y &&& 31)) :: st) σ o) : At Γ pc L (.int y :: .int x :: st) σ o :=
  fun r hr H locs ls hP hS hL => lv_ishl h.1 h.2.1 hd (kk r hr H locs ls hP hS hL)
theorem x_ishr (h : gOk Γ cc nL own ret fr lo) {x y : Int32} (hd : decode cc pc = .ok (.ishr, 1)) (kk : At Γ (pc + 1) L (.int (x >>> (y &&& 31)) :: st) σ o) : At Γ pc L (.int y :: .int x :: st) σ o :=
  fun r hr H locs ls hP hS hL => lv_ishr h.1 h.2.1 hd (kk r hr H locs ls hP hS hL)
def ushr (x y : Int32) : Int32 := (x.toUInt32 >>> (y.toUInt32 &&& Int32.toUInt32 31)).toInt32
theorem x_iushr (h : gOk Γ cc nL own ret fr lo) {x y : Int32} (hd : decode cc pc = .ok (.iushr, 1)) (kk : At Γ (pc + 1) L (.int (ushr x y) :: st) σ o) : At Γ pc L (.int y :: .int x :: st) σ o :=
  fun r hr H locs ls hP hS hL => lv_iushr h.1 h.2.1 hd rfl (kk r hr H locs ls hP hS hL)
theorem x_idiv (h : gOk Γ cc nL own ret fr lo) {x y : Int32} {f : Int32 → Option ρ} (hd : decode cc pc = .ok (.idiv, 1)) (kk : ∀ z, At Γ (pc + 1) L (.int z :: st) σ (f z)) : At Γ pc L (.int y :: .int x :: st) σ ((dv x y).bind f) := by
  intro r hr H locs ls hP hS hL
  obtain ⟨a, ha, hf⟩ := some_bind hr
  obtain ⟨hc, rfl⟩ := some_if ha
  exact lv_idiv h.1 h.2.1 hd hc (kk _ r hf H locs ls hP hS hL)
theorem x_irem (h : gOk Γ cc nL own ret fr lo) {x y : Int32} {f : Int32 → Option ρ} (hd : decode cc pc = .ok (.irem, 1)) (kk : ∀ z, At Γ (pc + 1) L (.int z :: st) σ (f z)) : At Γ pc L (.int y :: .int x :: st) σ ((rm x y).bind f) := by
  intro r hr H locs ls hP hS hL
  obtain ⟨a, ha, hf⟩ := some_bind hr
  obtain ⟨hc, rfl⟩ := some_if ha
  exact lv_irem h.1 h.2.1 hd hc (kk _ r hf H locs ls hP hS hL)
theorem x_fmul (h : gOk Γ cc nL own ret fr lo) {x y : UInt32} {f : UInt32 → Option ρ} (hd : decode cc pc = .ok (.fmul, 1)) (kk : ∀ z, At Γ (pc + 1) L (.float z :: st) σ (f z)) : At Γ pc L (.float y :: .float x :: st) σ ((fop (FP.fmul x y)).bind f) := by
  intro r hr H locs ls hP hS hL
  obtain ⟨a, ha, hf⟩ := some_bind hr
  obtain ⟨hc, rfl⟩ := some_ifp ha
  exact lv_fmul h.1 h.2.1 hd hc (kk _ r hf H locs ls hP hS hL)
theorem x_fdiv (h : gOk Γ cc nL own ret fr lo) {x y : UInt32} {f : UInt32 → Option ρ} (hd : decode cc pc = .ok (.fdiv, 1)) (kk : ∀ z, At Γ (pc + 1) L (.float z :: st) σ (f z)) : At Γ pc L (.float y :: .float x :: st) σ ((fop (FP.fdiv x y)).bind f) := by
  intro r hr H locs ls hP hS hL
  obtain ⟨a, ha, hf⟩ := some_bind hr
  obtain ⟨hc, rfl⟩ := some_ifp ha
  exact lv_fdiv h.1 h.2.1 hd hc (kk _ r hf H locs ls hP hS hL)
theorem x_fsub (h : gOk Γ cc nL own ret fr lo) {x y : UInt32} {f : UInt32 → Option ρ} (hd : decode cc pc = .ok (.fsub, 1)) (kk : ∀ z, At Γ (pc + 1) L (.float z :: st) σ (f z)) : At Γ pc L (.float y :: .float x :: st) σ ((fop (FP.fsub x y)).bind f) := by
  intro r hr H locs ls hP hS hL
  obtain ⟨a, ha, hf⟩ := some_bind hr
  obtain ⟨hc, rfl⟩ := some_ifp ha
  exact lv_fsub h.1 h.2.1 hd hc (kk _ r hf H locs ls hP hS hL)
theorem x_fadd (h : gOk Γ cc nL own ret fr lo) {x y : UInt32} {f : UInt32 → Option ρ} (hd : decode cc pc = .ok (.fadd, 1)) (kk : ∀ z, At Γ (pc + 1) L (.float z :: st) σ (f z)) : At Γ pc L (.float y :: .float x :: st) σ ((fop (FP.fadd x y)).bind f) := by
  intro r hr H locs ls hP hS hL
  obtain ⟨a, ha, hf⟩ := some_bind hr
  obtain ⟨hc, rfl⟩ := some_ifp ha
  exact lv_fadd h.1 h.2.1 hd hc (kk _ r hf H locs ls hP hS hL)
theorem x_fcmp (h : gOk Γ cc nL own ret fr lo) {x y : UInt32} {op : CmpOp} (hd : decode cc pc = .ok (.fcmp op, 1)) (kk : At Γ (pc + 1) L (.int (Op.cmpValue (FP.fcmp x y) op) :: st) σ o) : At Γ pc L (.float y :: .float x :: st) σ o :=
  fun r hr H locs ls hP hS hL => lv_fcmp h.1 h.2.1 hd (kk r hr H locs ls hP hS hL)
theorem x_i2f (h : gOk Γ cc nL own ret fr lo) {x : Int32} (hd : decode cc pc = .ok (.i2f, 1)) (kk : At Γ (pc + 1) L (.float (FP.i2f x) :: st) σ o) : At Γ pc L (.int x :: st) σ o :=
  fun r hr H locs ls hP hS hL => lv_i2f h.1 h.2.1 hd (kk r hr H locs ls hP hS hL)
theorem x_f2i (h : gOk Γ cc nL own ret fr lo) {x : UInt32} (hd : decode cc pc = .ok (.f2i, 1)) (kk : At Γ (pc + 1) L (.int (FP.f2i x) :: st) σ o) : At Γ pc L (.float x :: st) σ o :=
  fun r hr H locs ls hP hS hL => lv_f2i h.1 h.2.1 hd (kk r hr H locs ls hP hS hL)
theorem x_dup (h : gOk Γ cc nL own ret fr lo) {v : Value} (hd : decode cc pc = .ok (.dup, 1)) (hv : v.category = 1) (kk : At Γ (pc + 1) L (v :: v :: st) σ o) : At Γ pc L (v :: st) σ o :=
  fun r hr H locs ls hP hS hL => lv_dup h.1 h.2.1 hd hv (kk r hr H locs ls hP hS hL)
theorem x_dup2 (h : gOk Γ cc nL own ret fr lo) {v w : Value} (hd : decode cc pc = .ok (.dup2, 1)) (hv : v.category = 1) (hw : w.category = 1) (kk : At Γ (pc + 1) L (v :: w :: v :: w :: st) σ o) : At Γ pc L (v :: w :: st) σ o :=
  fun r hr H locs ls hP hS hL => lv_dup2_11 h.1 h.2.1 hd hv hw (kk r hr H locs ls hP hS hL)
theorem x_pop (h : gOk Γ cc nL own ret fr lo) {v : Value} (hd : decode cc pc = .ok (.pop, 1)) (hv : v.category = 1) (kk : At Γ (pc + 1) L st σ o) : At Γ pc L (v :: st) σ o :=
  fun r hr H locs ls hP hS hL => lv_pop h.1 h.2.1 hd hv (kk r hr H locs ls hP hS hL)
/-- a value gets a name -/
theorem x_lt {x : Int32} {f : Int32 → Option ρ} (kk : ∀ z, At Γ pc L (.int z :: st) σ (f z)) : At Γ pc L (.int x :: st) σ (lt x f) := kk x
theorem x_lt2 {x : Int32} {v : Value} {f : Int32 → Option ρ} (kk : ∀ z, At Γ pc L (v :: .int z :: st) σ (f z)) : At Γ pc L (v :: .int x :: st) σ (lt x f) := kk x
theorem x_goto (h : gOk Γ cc nL own ret fr lo) {off : Int} {tgt : Nat} (hd : decode cc pc = .ok (.goto off, 3)) (ht : (pc : Int) + off = (tgt : Int)) (kk : At Γ tgt L st σ o) : At Γ pc L st σ o :=
  fun r hr H locs ls hP hS hL => lv_goto h.1 h.2.1 hd ht (kk r hr H locs ls hP hS hL)
theorem some_ite {c : Prop} [Decidable c] {o1 o2 : Option ρ} {r : ρ} (h : (if c then o1 else o2) = some r) : (c → o1 = some r) ∧ (¬ c → o2 = some r) := ⟨fun hc => by rwa [if_pos hc] at h, fun hc => by rwa [if_neg hc] at h⟩
theorem x_if_eq (h : gOk Γ cc nL own ret fr lo) {x : Int32} [Decidable (x = 0)] {off : Int} {tgt : Nat} {o1 o2 : Option ρ} (hd : decode cc pc = .ok (.ifCond .eq off, 3)) (ht : (pc : Int) + off = (tgt : Int)) (kt : At Γ tgt L st σ o1) (kf : At Γ (pc + 3) L st σ o2) : At Γ pc L (.int x :: st) σ (if x = 0 then o1 else o2) :=
  fun r hr H locs ls hP hS hL => lv_if_eq h.1 h.2.1 hd ht (fun hc => kt r ((some_ite hr).1 hc) H locs ls hP hS hL) (fun hc => kf r ((some_ite hr).2 hc) H locs ls hP hS hL)
theorem j_if_eq (h : gOk Γ cc nL own ret fr lo) {x : Int32} {off : Int} {tgt : Nat} (hd : decode cc pc = .ok (.ifCond .eq off, 3)) (ht : (pc : Int) + off = (tgt : Int)) (kt : x = 0 → At Γ tgt L st σ o) (kf : ¬ x = 0 → At Γ (pc + 3) L st σ o) : At Γ pc L (.int x :: st) σ o :=
  fun r hr H locs ls hP hS hL => lv_if_eq h.1 h.2.1 hd ht (fun hc => kt hc r hr H locs ls hP hS hL) (fun hc => kf hc r hr H locs ls hP hS hL)
theorem x_icmp_eq (h : gOk Γ cc nL own ret fr lo) {x y : Int32} [Decidable (x = y)] {off : Int} {tgt : Nat} {o1 o2 : Option ρ} (hd : decode cc pc = .ok (.if_icmp .eq off, 3)) (ht : (pc : Int) + off = (tgt : Int)) (kt : At Γ tgt L st σ o1) (kf : At Γ (pc + 3) L st σ o2) : At Γ pc L (.int y :: .int x :: st) σ (if x = y then o1 else o2) :=
  fun r hr H locs ls hP hS hL => lv_icmp_eq h.1 h.2.1 hd ht (fun hc => kt r ((some_ite hr).1 hc) H locs ls hP hS hL) (fun hc => kf r ((some_ite hr).2 hc) H locs ls hP hS hL)
theorem j_icmp_eq (h : gOk Γ cc nL own ret fr lo) {x y : Int32} {off : Int} {tgt : Nat} (hd : decode cc pc = .ok (.if_icmp .eq off, 3)) (ht : (pc : Int) + off = (tgt : Int)) (kt : x = y → At Γ tgt L st σ o) (kf : ¬ x = y → At Γ (pc + 3) L st σ o) : At Γ pc L (.int y :: .int x :: st) σ o :=
  fun r hr H locs ls hP hS hL => lv_icmp_eq h.1 h.2.1 hd ht (fun hc => kt hc r hr H locs ls hP hS hL) (fun hc => kf hc r hr H locs ls hP hS hL)
theorem x_if_ne (h : gOk Γ cc nL own ret fr lo) {x : Int32} [Decidable (x = 0)] {off : Int} {tgt : Nat} {o1 o2 : Option ρ} (hd : decode cc pc = .ok (.ifCond .ne off, 3)) (ht : (pc : Int) + off = (tgt : Int)) (kt : At Γ tgt L st σ o2) (kf : At Γ (pc + 3) L st σ o1) : At Γ pc L (.int x :: st) σ (if x = 0 then o1 else o2) :=
  fun r hr H locs ls hP hS hL => lv_if_ne h.1 h.2.1 hd ht (fun hc => kt r ((some_ite hr).2 hc) H locs ls hP hS hL) (fun hc => kf r ((some_ite hr).1 hc) H locs ls hP hS hL)
theorem j_if_ne (h : gOk Γ cc nL own ret fr lo) {x : Int32} {off : Int} {tgt : Nat} (hd : decode cc pc = .ok (.ifCond .ne off, 3)) (ht : (pc : Int) + off = (tgt : Int)) (kt : ¬ x = 0 → At Γ tgt L st σ o) (kf : x = 0 → At Γ (pc + 3) L st σ o) : At Γ pc L (.int x :: st) σ o :=
  fun r hr H locs ls hP hS hL => lv_if_ne h.1 h.2.1 hd ht (fun hc => kt hc r hr H locs ls hP hS hL) (fun hc => kf hc r hr H locs ls hP hS hL)
theorem x_icmp_ne (h : gOk Γ cc nL own ret fr lo) {x y : Int32} [Decidable (x = y)] {off : Int} {tgt : Nat} {o1 o2 : Option ρ} (hd : decode cc pc = .ok (.if_icmp .ne off, 3)) (ht : (pc : Int) + off = (tgt : Int)) (kt : At Γ tgt L st σ o2) (kf : At Γ (pc + 3) L st σ o1) : At Γ pc L (.int y :: .int x :: st) σ (if x = y then o1 else o2) :=
  fun r hr H locs ls hP hS hL => lv_icmp_ne h.1 h.2.1 hd ht (fun hc => kt r ((some_ite hr).2 hc) H locs ls hP hS hL) (fun hc => kf r ((some_ite hr).1 hc) H locs ls hP hS hL)
theorem j_icmp_ne (h : gOk Γ cc nL own ret fr lo) {x y : Int32} {off : Int} {tgt : Nat} (hd : decode cc pc = .ok (.if_icmp .ne off, 3)) (ht : (pc : Int) + off = (tgt : Int)) (kt : ¬ x = y → At Γ tgt L st σ o) (kf : x = y → At Γ (pc + 3) L st σ o) : At Γ pc L (.int y :: .int x :: st) σ o :=
  fun r hr H locs ls hP hS hL => lv_icmp_ne h.1 h.2.1 hd ht (fun hc => kt hc r hr H locs ls hP hS hL) (fun hc => kf hc r hr H locs ls hP hS hL)
theorem x_if_lt (h : gOk Γ cc nL own ret fr lo) {x : Int32} [Decidable (x < 0)] {off : Int} {tgt : Nat} {o1 o2 : Option ρ} (hd : decode cc pc = .ok (.ifCond .lt off, 3)) (ht : (pc : Int) + off = (tgt : Int)) (kt : At Γ tgt L st σ o1) (kf : At Γ (pc + 3) L st σ o2) : At Γ pc L (.int x :: st) σ (if x < 0 then o1 else o2) :=
  fun r hr H locs ls hP hS hL => lv_if_lt h.1 h.2.1 hd ht (fun hc => kt r ((some_ite hr).1 hc) H locs ls hP hS hL) (fun hc => kf r ((some_ite hr).2 hc) H locs ls hP hS hL)
theorem j_if_lt (h : gOk Γ cc nL own ret fr lo) {x : Int32} {off : Int} {tgt : Nat} (hd : decode cc pc = .ok (.ifCond .lt off, 3)) (ht : (pc : Int) + off = (tgt : Int)) (kt : x < 0 → At Γ tgt L st σ o) (kf : ¬ x < 0 → At Γ (pc + 3) L st σ o) : At Γ pc L (.int x :: st) σ o :=
  fun r hr H locs ls hP hS hL => lv_if_lt h.1 h.2.1 hd ht (fun hc => kt hc r hr H locs ls hP hS hL) (fun hc => kf hc r hr H locs ls hP hS hL)
theorem x_icmp_lt (h : gOk Γ cc nL own ret fr lo) {x y : Int32} [Decidable (x < y)] {off : Int} {tgt : Nat} {o1 o2 : Option ρ} (hd : decode cc pc = .ok (.if_icmp .lt off, 3)) (ht : (pc : Int) + off = (tgt : Int)) (kt : At Γ tgt L st σ o1) (kf : At Γ (pc + 3) L st σ o2) : At Γ pc L (.int y :: .int x :: st) σ (if x < y then o1 else o2) :=
  fun r hr H locs ls hP hS hL => lv_icmp_lt h.1 h.2.1 hd ht (fun hc => kt r ((some_ite hr).1 hc) H locs ls hP hS hL) (fun hc => kf r ((some_ite hr).2 hc) H locs ls hP hS hL)
theorem j_icmp_lt (h : gOk Γ cc nL own ret fr lo) {x y : Int32} {off : Int} {tgt : Nat} (hd : decode cc pc = .ok (.if_icmp .lt off, 3)) (ht : (pc : Int) + off = (tgt : Int)) (kt : x < y → At Γ tgt L st σ o) (kf : ¬ x < y → At Γ (pc + 3) L st σ o) : At Γ pc L (.int y :: .int x :: st) σ o :=
  fun r hr H locs ls hP hS hL => lv_icmp_lt h.1 h.2.1 hd ht (fun hc => kt hc r hr H locs ls hP hS hL) (fun hc => kf hc r hr H locs ls hP hS hL)
theorem x_if_ge (h : gOk Γ cc nL own ret fr lo) {x : Int32} [Decidable (0 ≤ x)] {off : Int} {tgt : Nat} {o1 o2 : Option ρ} (hd : decode cc pc = .ok (.ifCond .ge off, 3)) (ht : (pc : Int) + off = (tgt : Int)) (kt : At Γ tgt L st σ o1) (kf : At Γ (pc + 3) L st σ o2) : At Γ pc L (.int x :: st) σ (if 0 ≤ x then o1 else o2) :=
  fun r hr H locs ls hP hS hL => lv_if_ge h.1 h.2.1 hd ht (fun hc => kt r ((some_ite hr).1 hc) H locs ls hP hS hL) (fun hc => kf r ((some_ite hr).2 hc) H locs ls hP hS hL)
theorem j_if_ge (h : gOk Γ cc nL own ret fr lo) {x : Int32} {off : Int} {tgt : Nat} (hd : decode cc pc = .ok (.ifCond .ge off, 3)) (ht : (pc : Int) + off = (tgt : Int)) (kt : 0 ≤ x → At Γ tgt L st σ o) (kf : ¬ 0 ≤ x → At Γ (pc + 3) L st σ o) : At Γ pc L (.int x :: st) σ o :=
  fun r hr H locs ls hP hS hL => lv_if_ge h.1 h.2.1 hd ht (fun hc => kt hc r hr H locs ls hP hS hL) (fun hc => kf hc r hr H locs ls hP hS hL)
theorem x_icmp_ge (h : gOk Γ cc nL own ret fr lo) {x y : Int32} [Decidable (y ≤ x)] {off : Int} {tgt : Nat} {o1 o2 : Option ρ} (hd : decode cc pc = .ok (.if_icmp .ge off, 3)) (ht : (pc : Int) + off = (tgt : Int)) (kt : At Γ tgt L st σ o1) (kf : At Γ (pc + 3) L st σ o2) : At Γ pc L (.int y :: .int x :: st) σ (if y ≤ x then o1 else o2) :=
  fun r hr H locs ls hP hS hL => lv_icmp_ge h.1 h.2.1 hd ht (fun hc => kt r ((some_ite hr).1 hc) H locs ls hP hS hL) (fun hc => kf r ((some_ite hr).2 hc) H locs ls hP hS hL)
theorem j_icmp_ge (h : gOk Γ cc nL own ret fr lo) {x y : Int32} {off : Int} {tgt : Nat} (hd : decode cc pc = .ok (.if_icmp .ge off, 3)) (ht : (pc : Int) + off = (tgt : Int)) (kt : y ≤ x → At Γ tgt L st σ o) (kf : ¬ y ≤ x → At Γ (pc + 3) L st σ o) : At Γ pc L (.int y :: .int x :: st) σ o :=
  fun r hr H locs ls hP hS hL => lv_icmp_ge h.1 h.2.1 hd ht (fun hc => kt hc r hr H locs ls hP hS hL) (fun hc => kf hc r hr H locs ls hP hS hL)
theorem x_if_gt (h : gOk Γ cc nL own ret fr lo) {x : Int32} [Decidable (0 < x)] {off : Int} {tgt : Nat} {o1 o2 : Option ρ} (hd : decode cc pc = .ok (.ifCond .gt off, 3)) (ht : (pc : Int) + off = (tgt : Int)) (kt : At Γ tgt L st σ o1) (kf : At Γ (pc + 3) L st σ o2) : At Γ pc L (.int x :: st) σ (if 0 < x then o1 else o2) :=
  fun r hr H locs ls hP hS hL => lv_if_gt h.1 h.2.1 hd ht (fun hc => kt r ((some_ite hr).1 hc) H locs ls hP hS hL) (fun hc => kf r ((some_ite hr).2 hc) H locs ls hP hS hL)
theorem j_if_gt (h : gOk Γ cc nL own ret fr lo) {x : Int32} {off : Int} {tgt : Nat} (hd : decode cc pc = .ok (.ifCond .gt off, 3)) (ht : (pc : Int) + off = (tgt : Int)) (kt : 0 < x → At Γ tgt L st σ o) (kf : ¬ 0 < x → At Γ (pc + 3) L st σ o) : At Γ pc L (.int x :: st) σ o :=
  fun r hr H locs ls hP hS hL => lv_if_gt h.1 h.2.1 hd ht (fun hc => kt hc r hr H locs ls hP hS hL) (fun hc => kf hc r hr H locs ls hP hS hL)
theorem x_icmp_gt (h : gOk Γ cc nL own ret fr lo) {x y : Int32} [Decidable (y < x)] {off : Int} {tgt : Nat} {o1 o2 : Option ρ} (hd : decode cc pc = .ok (.if_icmp .gt off, 3)) (ht : (pc : Int) + off = (tgt : Int)) (kt : At Γ tgt L st σ o1) (kf : At Γ (pc + 3) L st σ o2) : At Γ pc L (.int y :: .int x :: st) σ (if y < x then o1 else o2) :=
  fun r hr H locs ls hP hS hL => lv_icmp_gt h.1 h.2.1 hd ht (fun hc => kt r ((some_ite hr).1 hc) H locs ls hP hS hL) (fun hc => kf r ((some_ite hr).2 hc) H locs ls hP hS hL)
theorem j_icmp_gt (h : gOk Γ cc nL own ret fr lo) {x y : Int32} {off : Int} {tgt : Nat} (hd : decode cc pc = .ok (.if_icmp .gt off, 3)) (ht : (pc : Int) + off = (tgt : Int)) (kt : y < x → At Γ tgt L st σ o) (kf : ¬ y < x → At Γ (pc + 3) L st σ o) : At Γ pc L (.int y :: .int x :: st) σ o :=
  fun r hr H locs ls hP hS hL => lv_icmp_gt h.1 h.2.1 hd ht (fun hc => kt hc r hr H locs ls hP hS hL) (fun hc => kf hc r hr H locs ls hP hS hL)
theorem x_if_le (h : gOk Γ cc nL own ret fr lo) {x : Int32} [Decidable (x ≤ 0)] {off : Int} {tgt : Nat} {o1 o2 : Option ρ} (hd : decode cc pc = .ok (.ifCond .le off, 3)) (ht : (pc : Int) + off = (tgt : Int)) (kt : At Γ tgt L st σ o1) (kf : At Γ (pc + 3) L st σ o2) : At Γ pc L (.int x :: st) σ (if x ≤ 0 then o1 else o2) :=
  fun r hr H locs ls hP hS hL => lv_if_le h.1 h.2.1 hd ht (fun hc => kt r ((some_ite hr).1 hc) H locs ls hP hS hL) (fun hc => kf r ((some_ite hr).2 hc) H locs ls hP hS hL)
theorem j_if_le (h : gOk Γ cc nL own ret fr lo) {x : Int32} {off : Int} {tgt : Nat} (hd : decode cc pc = .ok (.ifCond .le off, 3)) (ht : (pc : Int) + off = (tgt : Int)) (kt : x ≤ 0 → At Γ tgt L st σ o) (kf : ¬ x ≤ 0 → At Γ (pc + 3) L st σ o) : At Γ pc L (.int x :: st) σ o :=
  fun r hr H locs ls hP hS hL => lv_if_le h.1 h.2.1 hd ht (fun hc => kt hc r hr H locs ls hP hS hL) (fun hc => kf hc r hr H locs ls hP hS hL)
theorem x_icmp_le (h : gOk Γ cc nL own ret fr lo) {x y : Int32} [Decidable (x ≤ y)] {off : Int} {tgt : Nat} {o1 o2 : Option ρ} (hd : decode cc pc = .ok (.if_icmp .le off, 3)) (ht : (pc : Int) + off = (tgt : Int)) (kt : At Γ tgt L st σ o1) (kf : At Γ (pc + 3) L st σ o2) : At Γ pc L (.int y :: .int x :: st) σ (if x ≤ y then o1 else o2) :=
  fun r hr H locs ls hP hS hL => lv_icmp_le h.1 h.2.1 hd ht (fun hc => kt r ((some_ite hr).1 hc) H locs ls hP hS hL) (fun hc => kf r ((some_ite hr).2 hc) H locs ls hP hS hL)
theorem j_icmp_le (h : gOk Γ cc nL own ret fr lo) {x y : Int32} {off : Int} {tgt : Nat} (hd : decode cc pc = .ok (.if_icmp .le off, 3)) (ht : (pc : Int) + off = (tgt : Int)) (kt : x ≤ y → At Γ tgt L st σ o) (kf : ¬ x ≤ y → At Γ (pc + 3) L st σ o) : At Γ pc L (.int y :: .int x :: st) σ o :=
  fun r hr H locs ls hP hS hL => lv_icmp_le h.1 h.2.1 hd ht (fun hc => kt hc r hr H locs ls hP hS hL) (fun hc => kf hc r hr H locs ls hP hS hL)
theorem x_ifnull (h : gOk Γ cc nL own ret fr lo) {q : Nat} {off : Int} (hd : decode cc pc = .ok (.ifnull off, 3)) (kk : At Γ (pc + 3) L st σ o) : At Γ pc L (.ref q :: st) σ o :=
  fun r hr H locs ls hP hS hL => lv_ifnull h.1 h.2.1 hd (kk r hr H locs ls hP hS hL)
theorem x_ifnonnull (h : gOk Γ cc nL own ret fr lo) {q : Nat} {off : Int} {tgt : Nat} (hd : decode cc pc = .ok (.ifnonnull off, 3)) (ht : (pc : Int) + off = (tgt : Int)) (kk : At Γ tgt L st σ o) : At Γ pc L (.ref q :: st) σ o :=
  fun r hr H locs ls hP hS hL => lv_ifnonnull h.1 h.2.1 hd ht (kk r hr H locs ls hP hS hL)
/-- switches, a value a row -/
theorem x_tsw (h : gOk Γ cc nL own ret fr lo) {x : Int32} (v : Int32) (n : Int) {dflt lo' hi' : Int} {offs : Array Int} {len : Nat} {off : Int} {tgt : Nat} {o1 o2 : Option ρ} (hd : decode cc pc = .ok (.tableswitch dflt lo' hi' offs, len)) (hv : v.toInt = n) (h1 : lo' ≤ n) (h2 : n ≤ hi') (ho : offs[(n - lo').toNat]? = some off) (ht : (pc : Int) + off = (tgt : Int))
    (kt : At Γ tgt L st σ o1) (kf : ¬ x = v → At Γ pc L (.int x :: st) σ o2) : At Γ pc L (.int x :: st) σ (if x = v then o1 else o2) := by
  intro r hr H locs ls hP hS hL
  by_cases hc : x = v
  · subst hc
    exact lv_tableIn h.1 h.2.1 hd (by omega) (by omega) (by rw [hv]; exact ho) ht (kt r ((some_ite hr).1 rfl) H locs ls hP hS hL)
  · exact kf hc r ((some_ite hr).2 hc) H locs ls hP hS hL
theorem x_tswd (h : gOk Γ cc nL own ret fr lo) {x : Int32} {dflt lo' hi' : Int} {offs : Array Int} {len : Nat} {tgt : Nat} (hd : decode cc pc = .ok (.tableswitch dflt lo' hi' offs, len)) (hx : x.toInt < lo' ∨ hi' < x.toInt) (ht : (pc : Int) + dflt = (tgt : Int))
    (kt : At Γ tgt L st σ o) : At Γ pc L (.int x :: st) σ o :=
  fun r hr H locs ls hP hS hL => lv_tableOut h.1 h.2.1 hd hx ht (kt r hr H locs ls hP hS hL)
theorem x_lsw (h : gOk Γ cc nL own ret fr lo) {x : Int32} (v : Int32) {dflt : Int} {ps : Array (Int × Int)} {len : Nat} {off : Int} {tgt : Nat} {o1 o2 : Option ρ} (hd : decode cc pc = .ok (.lookupswitch dflt ps, len)) (hp : (ps.toList.zip (ps.toList.drop 1)).all (fun (a, next) => a.1 < next.1) = true) (ho : Op.lookupswitch.offset ps.toList dflt v.toInt = off) (ht : (pc : Int) + off = (tgt : Int))
    (kt : At Γ tgt L st σ o1) (kf : ¬ x = v → At Γ pc L (.int x :: st) σ o2) : At Γ pc L (.int x :: st) σ (if x = v then o1 else o2) := by
  intro r hr H locs ls hP hS hL
  by_cases hc : x = v
  · subst hc
    exact lv_lookup h.1 h.2.1 hd hp ho ht (kt r ((some_ite hr).1 rfl) H locs ls hP hS hL)
  · exact kf hc r ((some_ite hr).2 hc) H locs ls hP hS hL
theorem x_lswd (h : gOk Γ cc nL own ret fr lo) {x : Int32} {dflt : Int} {ps : Array (Int × Int)} {len : Nat} {tgt : Nat} (hd : decode cc pc = .ok (.lookupswitch dflt ps, len)) (hp : (ps.toList.zip (ps.toList.drop 1)).all (fun (a, next) => a.1 < next.1) = true) (ho : Op.lookupswitch.offset ps.toList dflt x.toInt = dflt) (ht : (pc : Int) + dflt = (tgt : Int))
    (kt : At Γ tgt L st σ o) : At Γ pc L (.int x :: st) σ o :=
  fun r hr H locs ls hP hS hL => lv_lookup h.1 h.2.1 hd hp ho ht (kt r hr H locs ls hP hS hL)
theorem gNe {x v : Int32} (n : Int) (h : ¬ x = v) (hv : v.toInt = n) : x.toInt ≠ n := fun q => h (Int32.toInt_inj.mp (q.trans hv.symm))
/-! fields and arrays -/
theorem x_getI (h : gOk Γ cc nL own ret fr lo) (ci i : Nat) {k idx : Nat} (hk : isO k ci) (hci : ci < 11) (hi : i < gN ci) (hdl : gDl ci i = 0) (hw : Cond.fieldLink own idx (gT ci i).1 (gT ci i).2.1 (gT ci i).2.2.1 ∈ gTb) (hd : decode cc pc = .ok (.getfield idx, 3)) (kk : At Γ (pc + 3) L (.int (σ k i) :: st) σ o) : At Γ pc L (.ref (gAd Γ.1 k) :: st) σ o :=
  fun r hr H locs ls hP hS hL => va_get h.1 h.2.1 h.2.2.2.2.1 (gIn ci hci) h.2.2.2.1 h.2.2.2.2.2.1.1 hP k (gWsO hk) (gCl ci hci) i hi (h.2.2.2.2.1 _ hw) (fun _ q => q) (gFsI hi hdl) hd (kk r hr H locs ls hP hS hL)
theorem x_getR (h : gOk Γ cc nL own ret fr lo) (ci i d : Nat) {k idx : Nat} (hk : isO k ci) (hci : ci < 11) (hi : i < gN ci) (hdl : gDl ci i = d) (h0 : d ≠ 0) (hw : Cond.fieldLink own idx (gT ci i).1 (gT ci i).2.1 (gT ci i).2.2.1 ∈ gTb) (hd : decode cc pc = .ok (.getfield idx, 3)) (kk : At Γ (pc + 3) L (.ref (gAd Γ.1 (k + d)) :: st) σ o) : At Γ pc L (.ref (gAd Γ.1 k) :: st) σ o :=
  fun r hr H locs ls hP hS hL => va_get h.1 h.2.1 h.2.2.2.2.1 (gIn ci hci) h.2.2.2.1 h.2.2.2.2.2.1.1 hP k (gWsO hk) (gCl ci hci) i hi (h.2.2.2.2.1 _ hw) (fun _ q => q) (gFsR hi hdl h0) hd (kk r hr H locs ls hP hS hL)
theorem x_put (h : gOk Γ cc nL own ret fr lo) (ci i : Nat) (ty : FieldType) {k idx : Nat} {v : Int32} {f : gSt → Option ρ} (hk : isO k ci) (hci : ci < 11) (hi : i < gN ci) (hdl : gDl ci i = 0) (hfin : (gT ci i).2.2.2 = false) (hty : parseFieldDescriptor (gT ci i).2.2.1 = some ty) (hn : narrow ty (.int v) = .int v) (hfit : fits ty (.int v) = true)
    (hw : Cond.fieldLink own idx (gT ci i).1 (gT ci i).2.1 (gT ci i).2.2.1 ∈ gTb) (hd : decode cc pc = .ok (.putfield idx, 3)) (kk : ∀ σ', At Γ (pc + 3) L st σ' (f σ')) : At Γ pc L (.int v :: .ref (gAd Γ.1 k) :: st) σ (lt (gu σ k (upd (σ k) i v)) f) :=
  fun r hr H locs ls hP hS hL => va_put h.1 h.2.1 h.2.2.2.2.1 (gIn ci hci) (gTy ci) (gTyOk ci hci) (gNm ci hci) h.2.2.2.1 h.2.2.2.2.2.1.1 hP (gDs h.2.2.2.2.2.1.2.2 σ) hS k (gWsO hk) (gCl ci hci) i hi (h.2.2.2.2.1 _ hw) (fun _ q => q) hfin hty hn hfit (by rw [gFsL]; exact hi) hd (fun H1 locs1 hP1 _ hS1 => by
    rw [gWsU hk.1 (gCelO hk hi hdl)] at hP1
    exact kk _ r hr H1 locs1 ls hP1 hS1 hL)
theorem x_iald (h : gOk Γ cc nL own ret fr lo) {k n : Nat} {i : Int32} {f : Int32 → Option ρ} (hk : isA k n) (hd : decode cc pc = .ok (.iaload, 1)) (kk : ∀ v, At Γ (pc + 1) L (.int v :: st) σ (f v)) : At Γ pc L (.int i :: .ref (gAd Γ.1 k) :: st) σ ((rd n σ k i).bind f) := by
  intro r hr H locs ls hP hS hL
  obtain ⟨a, ha, hf⟩ := some_bind hr
  obtain ⟨hc, rfl⟩ := some_if ha
  exact va_iald h.1 h.2.1 h.2.2.2.2.2.1.1 hP k 0 (gWsA hk) rfl hc hd (kk _ r hf H locs ls hP hS hL)
/-- a place that is known to be inside -/
theorem x_ialdS (h : gOk Γ cc nL own ret fr lo) {k n : Nat} {i : Int32} (j : Nat) (hk : isA k n) (hj : i.toNatClampNeg = j) (h0 : ¬ i < 0) (hn : j < n) (hd : decode cc pc = .ok (.iaload, 1)) (kk : At Γ (pc + 1) L (.int (σ k j) :: st) σ o) : At Γ pc L (.int i :: .ref (gAd Γ.1 k) :: st) σ o := by
  intro r hr H locs ls hP hS hL
  subst hj
  exact va_iald h.1 h.2.1 h.2.2.2.2.2.1.1 hP k 0 (gWsA hk) rfl (fun q => by rcases q with q | q; exact h0 q; omega) hd (kk r hr H locs ls hP hS hL)
theorem x_iast (h : gOk Γ cc nL own ret fr lo) {k n : Nat} {i v : Int32} {f : gSt → Option ρ} (hk : isA k n) (hd : decode cc pc = .ok (.iastore, 1)) (kk : ∀ σ', At Γ (pc + 1) L st σ' (f σ')) : At Γ pc L (.int v :: .int i :: .ref (gAd Γ.1 k) :: st) σ ((wr n σ k i v).bind f) := by
  intro r hr H locs ls hP hS hL
  obtain ⟨a, ha, hf⟩ := some_bind hr
  obtain ⟨hc, rfl⟩ := some_if ha
  exact va_iast h.1 h.2.1 h.2.2.2.2.2.1.1 hP (gDs h.2.2.2.2.2.1.2.2 σ) hS k 0 (gWsA hk) rfl hc hd (fun H1 locs1 hP1 _ hS1 => by
    rw [gWsU hk.1 (gCelA hk)] at hP1
    exact kk _ r hf H1 locs1 ls hP1 hS1 hL)
theorem x_alen (h : gOk Γ cc nL own ret fr lo) {k n : Nat} (hk : isA k n) (hd : decode cc pc = .ok (.arraylength, 1)) (kk : At Γ (pc + 1) L (.int (Int32.ofNat n) :: st) σ o) : At Γ pc L (.ref (gAd Γ.1 k) :: st) σ o :=
  fun r hr H locs ls hP hS hL => va_alen (ty := .int) h.1 h.2.1 h.2.2.2.2.2.1.1 hP k 0 (gWsA hk) rfl rfl hd (kk r hr H locs ls hP hS hL)
theorem x_aald (h : gOk Γ cc nL own ret fr lo) {k : Nat} {i : Int32} {f : Nat → Option ρ} (hk : isQ k 4) (hd : decode cc pc = .ok (.aaload, 1)) (kk : ∀ q, isO q 7 → At Γ (pc + 1) L (.ref (gAd Γ.1 q) :: st) σ (f q)) : At Γ pc L (.int i :: .ref (gAd Γ.1 k) :: st) σ ((rdq 4 k i).bind f) := by
  intro r hr H locs ls hP hS hL
  obtain ⟨a, ha, hf⟩ := some_bind hr
  obtain ⟨hc, rfl⟩ := some_if ha
  exact va_aldq h.1 h.2.1 h.2.2.2.2.2.1.1 hP k 1 (gWsQ hk) rfl hc hd (kk _ (gTab2 k hk.1 hk.2 _ (by omega)) r hf H locs ls hP hS hL)
theorem x_cpy (h : gOk Γ cc nL own ret fr lo) {k0 k1 n0 n1 idx : Nat} {sp dp n : Int32} {f : gSt → Option ρ} (hk0 : isA k0 n0) (hk1 : isA k1 n1) (hw : Cond.methodLink own idx arraycopyName ∈ gTb) (hw1 : Cond.native arraycopyName ∈ gTb) (hw2 : Cond.static arraycopyName ∈ gTb) (hw3 : Cond.initialized "java/lang/System" ∈ gTb) (hnL : L.length = nL) (hfr : 1 ≤ fr) (hlo : (st.map fun v => v.category).sum + (nativeFrameWords "java/lang/System" "arraycopy" 5 + 11) ≤ lo)
    (hd : decode cc pc = .ok (.invokestatic idx, 3)) (kk : ∀ σ', At Γ (pc + 3) L st σ' (f σ')) : At Γ pc L (.int n :: .int dp :: .ref (gAd Γ.1 k1) :: .int sp :: .ref (gAd Γ.1 k0) :: st) σ ((cpy n0 n1 σ k0 sp k1 dp n).bind f) := by
  intro r hr H locs ls hP hS hL
  obtain ⟨a, ha, hf⟩ := some_bind hr
  obtain ⟨hc, rfl⟩ := some_if ha
  exact va_copyi (ty := .int) h.1 h.2.1 (by rw [h.2.2.1, hL.1, hnL]) h.2.2.2.1 (h.2.2.2.2.1 _ hw) (h.2.2.2.2.1 _ hw1) (h.2.2.2.2.1 _ hw2) (h.2.2.2.2.1 _ hw3) h.2.2.2.2.2.1.1 hP (gDs h.2.2.2.2.2.1.2.2 σ) hS k0 k1 0 0 (gWsA hk0) (gWsA hk1) rfl rfl rfl
    (fun q => hc (Or.inl q)) (fun q => hc (Or.inr (Or.inl q))) (fun q => hc (Or.inr (Or.inr (Or.inl q)))) (Nat.not_lt.mp fun q => hc (Or.inr (Or.inr (Or.inr (Or.inl q))))) (Nat.not_lt.mp fun q => hc (Or.inr (Or.inr (Or.inr (Or.inr q))))) (fun _ _ => rfl) (Nat.le_trans hfr h.2.2.2.2.2.2.2.2.1) (Nat.le_trans hlo h.2.2.2.2.2.2.2.2.2.1) hd (fun H1 locs1 hP1 _ hS1 => by
    rw [gWsU hk1.1 (gCelA hk1)] at hP1
    exact kk _ r hf H1 locs1 ls hP1 hS1 hL)
theorem x_f2raw (h : gOk Γ cc nL own ret fr lo) {b : UInt32} {idx : Nat} (hw : Cond.methodLink own idx ⟨"java/lang/Float", "floatToRawIntBits", "(F)I"⟩ ∈ gTb) (hw1 : Cond.native ⟨"java/lang/Float", "floatToRawIntBits", "(F)I"⟩ ∈ gTb) (hw2 : Cond.static ⟨"java/lang/Float", "floatToRawIntBits", "(F)I"⟩ ∈ gTb) (hw3 : Cond.initialized "java/lang/Float" ∈ gTb) (hnL : L.length = nL) (hfr : 1 ≤ fr) (hlo : (st.map fun v => v.category).sum + 15 ≤ lo)
    (hd : decode cc pc = .ok (.invokestatic idx, 3)) (kk : At Γ (pc + 3) L (.int b.toInt32 :: st) σ o) : At Γ pc L (.float b :: st) σ o :=
  fun r hr H locs ls hP hS hL => vn_f2i h.1 h.2.1 (by rw [h.2.2.1, hL.1, hnL]) h.2.2.2.1 (h.2.2.2.2.1 _ hw) (h.2.2.2.2.1 _ hw1) (h.2.2.2.2.1 _ hw2) (h.2.2.2.2.1 _ hw3) (Nat.le_trans hfr h.2.2.2.2.2.2.2.2.1) (Nat.le_trans hlo h.2.2.2.2.2.2.2.2.2.1) hd (kk r hr H locs ls hP hS hL)
end Rows
end
section
/-! ===== contracts over the whole world, calls, returns ===== -/
def gWo (G : gG) (σ : gSt) (U : State) : Prop := va_P G.1 vwCl (gWs G σ) U.heap ∧ gFx G U
theorem gFx_moved {G : gG} {s U : State} (hW : s.WarmedH U.vm) (h : gFx G s) : gFx G U := ⟨va_K.moved hW.alike h.1, fun q hq => va_Nw.warmM hW (h.2.1 q hq), h.2.2⟩
theorem gFx_calling {G : gG} {U : State} (g : JFrame) (mk : MethodId) (a : Array Value) (h : gFx G U) : gFx G (U.calling g mk a) :=
  ⟨va_K.moved (u := U) (U := U.calling g mk a) (Vm.Alike.refl U.vm) h.1, fun q hq => va_Nw.same (u := U) (U := U.calling g mk a) rfl rfl (h.2.1 q hq), h.2.2⟩
abbrev gA (G : gG) : Nat → Prop := fun q => gH0 G ≤ q
/-- ends: an int and a state; a state alone; an int, the state as it was; a reference to an object of class 7, the state as it was -/
def gQi (G : gG) (r : Int32 × gSt) : Array Value → State → Outcome → State → Prop := va_Qi (S := Unit) (fun v _ => v = r.1) (fun _ t => va_P G.1 vwCl (gWs G r.2) t.heap) (gA G)
def gQp (σ : gSt) (G : gG) (r : Int32) : Array Value → State → Outcome → State → Prop := va_Qi (S := Unit) (fun v _ => v = r) (fun _ t => va_P G.1 vwCl (gWs G σ) t.heap) (gA G)
def gQv (G : gG) (r : gSt) : Array Value → State → Outcome → State → Prop := va_Qv (S := Unit) (fun _ => True) (fun _ t => va_P G.1 vwCl (gWs G r) t.heap) (gA G)
def gQr (σ : gSt) (G : gG) (r : Nat) : Array Value → State → Outcome → State → Prop := va_Qr (S := Unit) (fun _ => isO r 7) (fun _ a t => a = gAd G r ∧ va_P G.1 vwCl (gWs G σ) t.heap) (gA G)
/-- a method's contract: where the computation o ends, the method does, with what Q says -/
def gCt {ρ : Type} (y : MethodName) (cc : ByteArray) (maxL : Nat) (ret : Option FieldType) (fr lo : Nat) (Q : gG → ρ → Array Value → State → Outcome → State → Prop) (av : (Nat → Nat) → List Value) (σ : gSt) (o : Option ρ) : Prop :=
  ∀ (l : Launch) (G : gG) (r : ρ), o = some r → Met l y (Cond.code y cc maxL ret :: gTb) { frames := fr, cells := 0, slots := 0, locals := lo } (va_Pc (av (gAd G)) (gWo G σ)) (Q G r) 0 0 (gA G)
/-- what is known of a method by its words -/
def gMt (y : MethodName) (bytes : ByteArray) (maxL : Nat) (ret : Option FieldType) (n : Nat) : Prop :=
  Cond.code y bytes maxL ret ∈ gTb ∧ Cond.initialized y.cls ∈ gTb ∧ (y.cls ≠ "java/lang/invoke/MethodHandle" ∧ y.cls ≠ "java/lang/invoke/VarHandle") ∧ (parseMethodDescriptor y.desc).map (fun d => d.parameters.length) = some n
def gMi (y : MethodName) : Prop := Cond.instanceMethod y ∈ gTb ∧ Cond.selects y.cls y y ∈ gTb
theorem gPb {G : gG} {σ : gSt} {av : List Value} : FrameBlind (va_Pc av (gWo G σ)) := fun a U g mk q => ⟨q.1, q.2.1, gFx_calling g mk a q.2.2⟩
/-- what a frame promises at its end -/
def gEnd {ρ : Type} (Γ : gX ρ) (Q : gG → ρ → Array Value → State → Outcome → State → Prop) : Prop :=
  Γ.2.2.2.1.1 = 0 ∧ Γ.2.2.2.1.2 = 0 ∧ Γ.2.2.2.2 = fun r => MQ Γ.2.2.1.2.2.1 (Q Γ.1 r) Γ.2.2.1.2.1 Γ.2.1.2.2.2.2 0 0 (gA Γ.1)
theorem gOfW {l : Launch} {y : MethodName} {ws ws' : List Cond} {rm : Room} {Pc : Array Value → State → Prop} {Qc : Array Value → State → Outcome → State → Prop} {mc ms : Nat} {free : Addr → Prop} {cc : ByteArray} {maxL : Nat} {ret : Option FieldType}
    (hy : plainFor y = true) (hw : ws = Cond.code y cc maxL ret :: ws')
    (body : ∀ p e s m args below meth c s₁, BodyLoose p l y (headSpec ws rm) cc maxL ret e s m args below meth c s₁ → c.maxLocals = maxL → Pc args s →
      W p l e (headSpec ws rm).room s m args below meth c s.heap [] 0 0 (MQ below Qc args s mc ms free) (entryFrame m args maxL)) : Met l y ws rm Pc Qc mc ms free := by
  refine MetFree.of_bodySF (code := cc) (maxLocals := maxL) (ret := ret) hy ?_ ?_
  · intro args s m h hn
    obtain ⟨meth, c, h1, h2, h3, h4, h5, h6, -, -⟩ := Cond.code_spec hn (atoms_spec (ws := ws) h _ (by rw [hw]; exact List.mem_cons_self))
    exact ⟨meth, c, h1, h2, h3, h4, h5, h6⟩
  · intro p e s m args below meth c s₁ B hml hP _
    have hh0 : s₁.heap = s.heap := by rw [B.state]; rfl
    obtain ⟨t, a1, o, b1, b2, b3⟩ := body p e s m args below meth c s₁ B hml hP s₁ hh0 (Stand.of_body B)
    exact ⟨t, o, a1, b1, b2, ⟨b3.1, b3.2⟩⟩
/-- the locals at a method's entry -/
def gEn (vs : List Value) (n : Nat) : List (Option Value) := vs.map some ++ List.replicate (n - vs.length) none
theorem gSl1 : ∀ (vs : List Value), (∀ v ∈ vs, v.category = 1) → lg_sl vs = vs.map Slot.val
  | [], _ => rfl
  | v :: vs, h => by
    have h1 := h v List.mem_cons_self
    have h2 := gSl1 vs (fun w hw => h w (List.mem_cons_of_mem _ hw))
    unfold lg_sl at h2 ⊢
    rw [List.flatMap_cons, h2]
    simp [h1]
theorem gEnL {vs : List Value} {n : Nat} (hc : ∀ v ∈ vs, v.category = 1) (hn : vs.length ≤ n) : gL ((lg_sl vs ++ List.replicate (n - (lg_sl vs).length) Slot.unset).toArray) (gEn vs n) := by
  have hs := gSl1 vs hc
  have hlen : (lg_sl vs).length = vs.length := by rw [hs, List.length_map]
  have hl := lv_entry vs (n := n) (by rw [hlen]; exact hn)
  refine ⟨?_, hl.2.1, fun i v hv => ?_⟩
  · rw [hl.1]
    simp [gEn]
    omega
  · have hi : i < vs.length := by
      rcases Nat.lt_or_ge i vs.length with q | q
      · exact q
      · unfold gEn at hv
        rw [List.getElem?_append_right (by simpa using q)] at hv
        rw [List.getElem?_replicate] at hv
        split at hv <;> cases hv
    unfold gEn at hv
    rw [List.getElem?_append_left (by simpa using hi), List.getElem?_map] at hv
    cases hq : vs[i]? with
    | none => rw [hq] at hv; cases hv
    | some z =>
      rw [hq] at hv
      have e : z = v := Option.some.inj (Option.some.inj hv)
      subst e
      refine ⟨?_, hc _ (List.mem_of_getElem? hq)⟩
      rw [hs, List.getElem?_toArray, List.getElem?_append_left (by simpa using hi), List.getElem?_map, hq]
      rfl
theorem gCt_intro {ρ : Type} {y : MethodName} {cc : ByteArray} {maxL : Nat} {ret : Option FieldType} {fr lo : Nat} {Q : gG → ρ → Array Value → State → Outcome → State → Prop} {av : (Nat → Nat) → List Value} {σ : gSt} {o : Option ρ} (own : String) (hown : y.cls = own) (hy : plainFor y = true) (hc : ∀ ad, ∀ v ∈ av ad, v.category = 1) (hn : ∀ ad, (av ad).length ≤ maxL)
    (k : ∀ Γ : gX ρ, gOk Γ cc maxL own ret fr lo → gEnd Γ Q → At Γ 0 (gEn (av (gAd Γ.1)) maxL) [] σ o) : gCt y cc maxL ret fr lo Q av σ o := by
  intro l G r hr
  refine gOfW (cc := cc) (maxL := maxL) (ret := ret) hy rfl ?_
  intro p e s m args below meth c s₁ B hml hv
  obtain ⟨rfl, hP, hF⟩ := hv
  have hts := atoms_spec (ws := Cond.code y cc maxL ret :: gTb) B.pre
  have hOwn : s.vm.findClass own = some m.cls := hown ▸ findClass_of_methodNamed B.named
  rw [lg_entry_eq]
  exact k (G, (p, l, e, { frames := fr, cells := 0, slots := 0, locals := lo }, s), (m, (av (gAd G)).toArray, below, meth, c), (0, 0), fun r => MQ below (Q G r) (av (gAd G)).toArray s 0 0 (gA G))
    ⟨B.exec, B.bytes, hml, hOwn, fun w hw => hts w (List.mem_cons_of_mem _ hw), hF, B.returns, B.notSynchronized, Nat.le_refl _, Nat.le_refl _, Nat.le_refl _, Nat.le_refl _⟩ ⟨rfl, rfl, rfl⟩ r hr s.heap [] _ hP va_S.rf (gEnL (hc _) (hn _))
section Ends
variable {cc : ByteArray} {nL : Nat} {own : String} {fr lo : Nat} {pc : Nat} {L : List (Option Value)} {σ : gSt}
theorem gMQ {ρ : Type} {Γ : gX ρ} {Q : gG → ρ → Array Value → State → Outcome → State → Prop} (z : gEnd Γ Q) (r : ρ) : Γ.2.2.2.2 r = MQ Γ.2.2.1.2.2.1 (Q Γ.1 r) Γ.2.2.1.2.1 Γ.2.1.2.2.2.2 Γ.2.2.2.1.1 Γ.2.2.2.1.2 (gA Γ.1) := by
  rw [z.2.2, z.1, z.2.1]
theorem x_ireti {Γ : gX (Int32 × gSt)} {ret : Option FieldType} (h : gOk Γ cc nL own ret fr lo) (z : gEnd Γ gQi) {v : Int32} (ty : FieldType) (hr : ret = some ty) (hn : narrow ty (.int v) = .int v) (hd : decode cc pc = .ok (.ireturn, 1)) : At Γ pc L [.int v] σ (some (v, σ)) := by
  intro r hr0 H locs ls hP hS hL
  cases hr0
  rw [gMQ z]
  exact W.zret (v := v) h.1 h.2.1 (h.2.2.2.2.2.2.1.trans hr) hn (fun t ht hW => ⟨⟨v, (), rfl, rfl, by subst ht; exact hP⟩, hS.F ht⟩) hS.2.2 hd (hlocks := h.2.2.2.2.2.2.2.1)
theorem x_iretp {Γ : gX Int32} {σ0 : gSt} {ret : Option FieldType} (h : gOk Γ cc nL own ret fr lo) (z : gEnd Γ (gQp σ0)) (hσ : σ = σ0) {v : Int32} (ty : FieldType) (hr : ret = some ty) (hn : narrow ty (.int v) = .int v) (hd : decode cc pc = .ok (.ireturn, 1)) : At Γ pc L [.int v] σ (some v) := by
  intro r hr0 H locs ls hP hS hL
  cases hr0
  subst hσ
  rw [gMQ z]
  exact W.zret (v := v) h.1 h.2.1 (h.2.2.2.2.2.2.1.trans hr) hn (fun t ht hW => ⟨⟨v, (), rfl, rfl, by subst ht; exact hP⟩, hS.F ht⟩) hS.2.2 hd (hlocks := h.2.2.2.2.2.2.2.1)
theorem gZ01 {v : Int32} (h : v = 0 ∨ v = 1) : narrow .boolean (.int v) = .int v := by rcases h with rfl | rfl <;> rfl
theorem x_zreti {Γ : gX (Int32 × gSt)} {ret : Option FieldType} (h : gOk Γ cc nL own ret fr lo) (z : gEnd Γ gQi) {v : Int32} (hr : ret = some .boolean) (hd : decode cc pc = .ok (.ireturn, 1)) : At Γ pc L [.int v] σ ((zb v).bind fun v => some (v, σ)) := by
  intro r hr0 H locs ls hP hS hL
  obtain ⟨a, ha, hf⟩ := some_bind hr0
  obtain ⟨hc, rfl⟩ := some_ifp ha
  exact x_ireti h z .boolean hr (gZ01 hc) hd r hf H locs ls hP hS hL
theorem x_zretp {Γ : gX Int32} {σ0 : gSt} {ret : Option FieldType} (h : gOk Γ cc nL own ret fr lo) (z : gEnd Γ (gQp σ0)) (hσ : σ = σ0) {v : Int32} (hr : ret = some .boolean) (hd : decode cc pc = .ok (.ireturn, 1)) : At Γ pc L [.int v] σ (zb v) := by
  intro r hr0 H locs ls hP hS hL
  obtain ⟨hc, rfl⟩ := some_ifp hr0
  exact x_iretp h z hσ .boolean hr (gZ01 hc) hd v rfl H locs ls hP hS hL
theorem x_vret {Γ : gX gSt} {ret : Option FieldType} (h : gOk Γ cc nL own ret fr lo) (z : gEnd Γ gQv) (hr : ret = none) (hd : decode cc pc = .ok (.return_, 1)) : At Γ pc L [] σ (some σ) := by
  intro r hr0 H locs ls hP hS hL
  cases hr0
  rw [gMQ z]
  exact W.vret h.1 h.2.1 (h.2.2.2.2.2.2.1.trans hr) (fun t ht hW => ⟨⟨(), rfl, trivial, by subst ht; exact hP⟩, hS.F ht⟩) hS.2.2 hd (hlocks := h.2.2.2.2.2.2.2.1)
theorem x_aret {Γ : gX Nat} {σ0 : gSt} {ret : Option FieldType} (h : gOk Γ cc nL own ret fr lo) (z : gEnd Γ (gQr σ0)) (hσ : σ = σ0) {k : Nat} (hk : isO k 7) (nm : String) (hr : ret = some (.object nm)) (hd : decode cc pc = .ok (.areturn, 1)) : At Γ pc L [.ref (gAd Γ.1 k)] σ (some k) := by
  intro r hr0 H locs ls hP hS hL
  cases hr0
  subst hσ
  rw [gMQ z]
  exact W.aret h.1 h.2.1 (h.2.2.2.2.2.2.1.trans hr) (Or.inl ⟨nm, rfl⟩) (Or.inr ⟨_, rfl⟩) (fun t ht hW => ⟨⟨(), _, rfl, hk, rfl, by subst ht; exact hP⟩, hS.F ht⟩) hS.2.2 hd (hlocks := h.2.2.2.2.2.2.2.1)
end Ends
section CallRows
variable {ρ : Type} {Γ : gX ρ} {cc : ByteArray} {nL : Nat} {own : String} {ret : Option FieldType} {fr lo : Nat} {pc : Nat} {L : List (Option Value)} {st rest : List Value} {σ : gSt}
variable {y : MethodName} {bytes : ByteArray} {maxL n idx f' l' : Nat} {ret' : Option FieldType}
/-- what a call row needs of its place -/
def gCa (st rest : List Value) (fr lo f' l' maxL nL : Nat) (L : List (Option Value)) : Prop := f' + 1 ≤ fr ∧ 8 + (maxL + 11) + l' ≤ lo ∧ (rest.map fun v => v.category).sum ≤ 8 ∧ L.length = nL
theorem gRunV (h : gOk Γ cc nL own ret fr lo) (hm : gMt y bytes maxL ret' n) (hi : gMi y) (hlk : Cond.methodLink own idx y ∈ gTb) {ci k : Nat} (hk : isO k ci) (hci : ci < 11) (hcl : y.cls = gR ci) {As : List Value} (hst : st = As.reverse ++ .ref (gAd Γ.1 k) :: rest) (hn : As.length = n) (hca : gCa st rest fr lo f' l' maxL nL L) (hd : decode cc pc = .ok (.invokevirtual idx, 3))
    {Qc : Array Value → State → Outcome → State → Prop} {H : Heap} {locs : List Loc} {ls : Array Slot} (hM : Met Γ.2.1.2.1 y (Cond.code y bytes maxL ret' :: gTb) { frames := f', cells := 0, slots := 0, locals := l' } (va_Pc (.ref (gAd Γ.1 k) :: As) (gWo Γ.1 σ)) Qc 0 0 (gA Γ.1)) (hP : va_P Γ.1.1 vwCl (gWs Γ.1 σ) H) (hL : gL ls L) :
    va_Run Γ.2.1.1 Γ.2.1.2.1 Γ.2.1.2.2.1 Γ.2.1.2.2.2.1 Γ.2.1.2.2.2.2 Γ.2.2.1.1 Γ.2.2.1.2.1 Γ.2.2.1.2.2.1 Γ.2.2.1.2.2.2.1 Γ.2.2.1.2.2.2.2 H locs Γ.2.2.2.1.1 Γ.2.2.2.1.2 0 0 (F0 Γ.2.2.1.1 pc ls st) rest (Qc (.ref (gAd Γ.1 k) :: As).toArray) (gA Γ.1) := by
  obtain ⟨m1, m2, m3, m4⟩ := hm
  refine va_runV (C := y.cls) (Ts := gTb) ⟨h.1, h.2.1, h.2.2.1, h.2.2.2.1, h.2.2.2.2.1⟩ hM (cwV n h.2.2.2.2.1 (gGood fun w hw => ?_) rfl rfl rfl ⟨rfl, m3.1, m3.2, m4⟩ ⟨Nat.le_trans hca.1 h.2.2.2.2.2.2.2.2.1, Nat.le_trans hca.2.1 h.2.2.2.2.2.2.2.2.2.1⟩) ⟨gPb, ?_, fun U hU hW => ⟨rfl, by rw [hU]; exact hP, gFx_moved hW h.2.2.2.2.2.1⟩⟩ rfl hn (hL.1.trans hca.2.2.2) hst (lv_room hca.2.2.1) hd ⟨h.2.2.2.2.2.2.2.2.2.2.1, h.2.2.2.2.2.2.2.2.2.2.2⟩
  · rcases List.mem_append.mp hw with q | q
    · simp only [List.mem_cons, List.not_mem_nil, or_false] at q
      rcases q with rfl | rfl | rfl | rfl
      · exact hlk
      · exact hi.1
      · exact hi.2
      · exact m2
    · exact gGoodC m1 w q
  · have hrv := va_recv h.2.2.2.2.2.1.1 hP (gCl ci hci) (gWsO hk)
    rw [hcl]
    exact hrv
theorem gRunS (h : gOk Γ cc nL own ret fr lo) (hm : gMt y bytes maxL ret' n) (hi : Cond.static y ∈ gTb) (hlk : Cond.methodLink own idx y ∈ gTb) {As : List Value} (hst : st = As.reverse ++ rest) (hn : As.length = n) (hca : gCa st rest fr lo f' l' maxL nL L) (hd : decode cc pc = .ok (.invokestatic idx, 3))
    {Qc : Array Value → State → Outcome → State → Prop} {H : Heap} {locs : List Loc} {ls : Array Slot} (hM : Met Γ.2.1.2.1 y (Cond.code y bytes maxL ret' :: gTb) { frames := f', cells := 0, slots := 0, locals := l' } (va_Pc As (gWo Γ.1 σ)) Qc 0 0 (gA Γ.1)) (hP : va_P Γ.1.1 vwCl (gWs Γ.1 σ) H) (hL : gL ls L) :
    va_Run Γ.2.1.1 Γ.2.1.2.1 Γ.2.1.2.2.1 Γ.2.1.2.2.2.1 Γ.2.1.2.2.2.2 Γ.2.2.1.1 Γ.2.2.1.2.1 Γ.2.2.1.2.2.1 Γ.2.2.1.2.2.2.1 Γ.2.2.1.2.2.2.2 H locs Γ.2.2.2.1.1 Γ.2.2.2.1.2 0 0 (F0 Γ.2.2.1.1 pc ls st) rest (Qc As.toArray) (gA Γ.1) := by
  obtain ⟨m1, m2, m3, m4⟩ := hm
  refine va_runS (Ts := gTb) ⟨h.1, h.2.1, h.2.2.1, h.2.2.2.1, h.2.2.2.2.1⟩ hM (va_cwS n h.2.2.2.2.1 (gGood fun w hw => ?_) rfl rfl rfl ⟨m3.1, m3.2, m4⟩ ⟨Nat.le_trans hca.1 h.2.2.2.2.2.2.2.2.1, Nat.le_trans hca.2.1 h.2.2.2.2.2.2.2.2.2.1⟩) ⟨gPb, fun U hU hW => ⟨rfl, by rw [hU]; exact hP, gFx_moved hW h.2.2.2.2.2.1⟩⟩ rfl hn (hL.1.trans hca.2.2.2) hst (lv_room hca.2.2.1) hd ⟨h.2.2.2.2.2.2.2.2.2.2.1, h.2.2.2.2.2.2.2.2.2.2.2⟩
  rcases List.mem_append.mp hw with q | q
  · simp only [List.mem_cons, List.not_mem_nil, or_false] at q
    rcases q with rfl | rfl | rfl
    · exact hlk
    · exact hi
    · exact m2
  · exact gGoodC m1 w q
theorem gRunN (h : gOk Γ cc nL own ret fr lo) (hm : gMt y bytes maxL ret' n) (hi : Cond.static y ∈ gTb) {host : String} (hlk : (own, idx, y, host) ∈ gNl) {As : List Value} (hst : st = As.reverse ++ rest) (hn : As.length = n) (hca : gCa st rest fr lo f' l' maxL nL L) (hd : decode cc pc = .ok (.invokestatic idx, 3))
    {Qc : Array Value → State → Outcome → State → Prop} {H : Heap} {locs : List Loc} {ls : Array Slot} (hM : Met Γ.2.1.2.1 y (Cond.code y bytes maxL ret' :: gTb) { frames := f', cells := 0, slots := 0, locals := l' } (va_Pc As (gWo Γ.1 σ)) Qc 0 0 (gA Γ.1)) (hP : va_P Γ.1.1 vwCl (gWs Γ.1 σ) H) (hL : gL ls L) :
    va_Run Γ.2.1.1 Γ.2.1.2.1 Γ.2.1.2.2.1 Γ.2.1.2.2.2.1 Γ.2.1.2.2.2.2 Γ.2.2.1.1 Γ.2.2.1.2.1 Γ.2.2.1.2.2.1 Γ.2.2.1.2.2.2.1 Γ.2.2.1.2.2.2.2 H locs Γ.2.2.2.1.1 Γ.2.2.2.1.2 0 0 (F0 Γ.2.2.1.1 pc ls st) rest (Qc As.toArray) (gA Γ.1) := by
  obtain ⟨m1, m2, m3, m4⟩ := hm
  exact va_runSN (Ts := gTb) ⟨h.1, h.2.1, h.2.2.1, h.2.2.2.1, h.2.2.2.2.1⟩ hM ⟨va_cnB n h.2.2.2.2.1 (gGood (gGoodC m1)) rfl rfl rfl (h.2.2.2.2.2.1.2.1 _ hlk) (h.2.2.2.2.1 _ m2) ⟨m3.1, m3.2, m4⟩ ⟨Nat.le_trans hca.1 h.2.2.2.2.2.2.2.2.1, Nat.le_trans hca.2.1 h.2.2.2.2.2.2.2.2.2.1⟩, h.2.2.2.2.1 _ hi, trivial⟩ ⟨gPb, fun U hU hW => ⟨rfl, by rw [hU]; exact hP, gFx_moved hW h.2.2.2.2.2.1⟩⟩ rfl hn (hL.1.trans hca.2.2.2) hst (lv_room hca.2.2.1) hd ⟨h.2.2.2.2.2.2.2.2.2.2.1, h.2.2.2.2.2.2.2.2.2.2.2⟩
end CallRows
section Calls
variable {ρ : Type} {Γ : gX ρ} {cc : ByteArray} {nL : Nat} {own : String} {ret : Option FieldType} {fr lo : Nat} {pc : Nat} {L : List (Option Value)} {st rest : List Value} {σ : gSt}
variable {y : MethodName} {bytes : ByteArray} {maxL n idx f' l' : Nat} {ret' : Option FieldType}
theorem x_Vi (h : gOk Γ cc nL own ret fr lo) (hm : gMt y bytes maxL ret' n) (hi : gMi y) (hlk : Cond.methodLink own idx y ∈ gTb) {ci k : Nat} (hk : isO k ci) (hci : ci < 11) (hcl : y.cls = gR ci) {av : (Nat → Nat) → List Value} {o : Option (Int32 × gSt)} {f : Int32 → gSt → Option ρ} (ct : gCt y bytes maxL ret' f' l' gQi (fun ad => .ref (ad k) :: av ad) σ o) (hst : st = (av (gAd Γ.1)).reverse ++ .ref (gAd Γ.1 k) :: rest) (hn : (av (gAd Γ.1)).length = n) (hca : gCa st rest fr lo f' l' maxL nL L) (hd : decode cc pc = .ok (.invokevirtual idx, 3)) (kk : ∀ v σ', At Γ (pc + 3) L (.int v :: rest) σ' (f v σ')) : At Γ pc L st σ (b2 o f) := by
  intro r hr H locs ls hP hS hL
  obtain ⟨a, b, ho, hf⟩ := some_b2 hr
  refine va_calli (a := ((fun ad => .ref (ad k) :: av ad) (gAd Γ.1)).toArray) (free := gA Γ.1) (A1 := gA Γ.1) (gRunV h hm hi hlk hk hci hcl hst hn hca hd (ct Γ.2.1.2.1 Γ.1 (a, b) ho) hP hL) hS (fun _ _ q => q) (fun _ q => q) (fun v u t H1 locs1 ht hvm hw hB h1 h2 hS1 => ?_)
  subst hw
  rw [ht] at hB
  exact kk _ b r hf H1 locs1 ls hB hS1 hL
theorem x_Vp (h : gOk Γ cc nL own ret fr lo) (hm : gMt y bytes maxL ret' n) (hi : gMi y) (hlk : Cond.methodLink own idx y ∈ gTb) {ci k : Nat} (hk : isO k ci) (hci : ci < 11) (hcl : y.cls = gR ci) {av : (Nat → Nat) → List Value} {o : Option Int32} {f : Int32 → Option ρ} (ct : gCt y bytes maxL ret' f' l' (gQp σ) (fun ad => .ref (ad k) :: av ad) σ o) (hst : st = (av (gAd Γ.1)).reverse ++ .ref (gAd Γ.1 k) :: rest) (hn : (av (gAd Γ.1)).length = n) (hca : gCa st rest fr lo f' l' maxL nL L) (hd : decode cc pc = .ok (.invokevirtual idx, 3)) (kk : ∀ v, At Γ (pc + 3) L (.int v :: rest) σ (f v)) : At Γ pc L st σ (o.bind f) := by
  intro r hr H locs ls hP hS hL
  obtain ⟨a, ho, hf⟩ := some_bind hr
  refine va_calli (a := ((fun ad => .ref (ad k) :: av ad) (gAd Γ.1)).toArray) (free := gA Γ.1) (A1 := gA Γ.1) (gRunV h hm hi hlk hk hci hcl hst hn hca hd (ct Γ.2.1.2.1 Γ.1 a ho) hP hL) hS (fun _ _ q => q) (fun _ q => q) (fun v u t H1 locs1 ht hvm hw hB h1 h2 hS1 => ?_)
  subst hw
  rw [ht] at hB
  exact kk _ r hf H1 locs1 ls hB hS1 hL
theorem x_Vv (h : gOk Γ cc nL own ret fr lo) (hm : gMt y bytes maxL ret' n) (hi : gMi y) (hlk : Cond.methodLink own idx y ∈ gTb) {ci k : Nat} (hk : isO k ci) (hci : ci < 11) (hcl : y.cls = gR ci) {av : (Nat → Nat) → List Value} {o : Option gSt} {f : gSt → Option ρ} (ct : gCt y bytes maxL ret' f' l' gQv (fun ad => .ref (ad k) :: av ad) σ o) (hst : st = (av (gAd Γ.1)).reverse ++ .ref (gAd Γ.1 k) :: rest) (hn : (av (gAd Γ.1)).length = n) (hca : gCa st rest fr lo f' l' maxL nL L) (hd : decode cc pc = .ok (.invokevirtual idx, 3)) (kk : ∀ σ', At Γ (pc + 3) L rest σ' (f σ')) : At Γ pc L st σ (o.bind f) := by
  intro r hr H locs ls hP hS hL
  obtain ⟨a, ho, hf⟩ := some_bind hr
  refine va_callv (a := ((fun ad => .ref (ad k) :: av ad) (gAd Γ.1)).toArray) (free := gA Γ.1) (A1 := gA Γ.1) (gRunV h hm hi hlk hk hci hcl hst hn hca hd (ct Γ.2.1.2.1 Γ.1 a ho) hP hL) hS (fun _ _ q => q) (fun _ q => q) (fun u t H1 locs1 ht hvm hw hB h1 h2 hS1 => ?_)
  rw [ht] at hB
  exact kk a r hf H1 locs1 ls hB hS1 hL
theorem x_Vr (h : gOk Γ cc nL own ret fr lo) (hm : gMt y bytes maxL ret' n) (hi : gMi y) (hlk : Cond.methodLink own idx y ∈ gTb) {ci k : Nat} (hk : isO k ci) (hci : ci < 11) (hcl : y.cls = gR ci) {av : (Nat → Nat) → List Value} {o : Option Nat} {f : Nat → Option ρ} (ct : gCt y bytes maxL ret' f' l' (gQr σ) (fun ad => .ref (ad k) :: av ad) σ o) (hst : st = (av (gAd Γ.1)).reverse ++ .ref (gAd Γ.1 k) :: rest) (hn : (av (gAd Γ.1)).length = n) (hca : gCa st rest fr lo f' l' maxL nL L) (hd : decode cc pc = .ok (.invokevirtual idx, 3)) (kk : ∀ q, isO q 7 → At Γ (pc + 3) L (.ref (gAd Γ.1 q) :: rest) σ (f q)) : At Γ pc L st σ (o.bind f) := by
  intro r hr H locs ls hP hS hL
  obtain ⟨a, ho, hf⟩ := some_bind hr
  refine va_callr (a := ((fun ad => .ref (ad k) :: av ad) (gAd Γ.1)).toArray) (free := gA Γ.1) (A1 := gA Γ.1) (gRunV h hm hi hlk hk hci hcl hst hn hca hd (ct Γ.2.1.2.1 Γ.1 a ho) hP hL) hS (fun _ _ q => q) (fun _ q => q) (fun u ra t H1 locs1 ht hvm hw hB h1 h2 hS1 => ?_)
  obtain ⟨rfl, hB⟩ := hB
  rw [ht] at hB
  exact kk a hw r hf H1 locs1 ls hB hS1 hL
theorem x_Si (h : gOk Γ cc nL own ret fr lo) (hm : gMt y bytes maxL ret' n) (hi : Cond.static y ∈ gTb) (hlk : Cond.methodLink own idx y ∈ gTb) {av : (Nat → Nat) → List Value} {o : Option (Int32 × gSt)} {f : Int32 → gSt → Option ρ} (ct : gCt y bytes maxL ret' f' l' gQi av σ o) (hst : st = (av (gAd Γ.1)).reverse ++ rest) (hn : (av (gAd Γ.1)).length = n) (hca : gCa st rest fr lo f' l' maxL nL L) (hd : decode cc pc = .ok (.invokestatic idx, 3)) (kk : ∀ v σ', At Γ (pc + 3) L (.int v :: rest) σ' (f v σ')) : At Γ pc L st σ (b2 o f) := by
  intro r hr H locs ls hP hS hL
  obtain ⟨a, b, ho, hf⟩ := some_b2 hr
  refine va_calli (a := (av (gAd Γ.1)).toArray) (free := gA Γ.1) (A1 := gA Γ.1) (gRunS h hm hi hlk hst hn hca hd (ct Γ.2.1.2.1 Γ.1 (a, b) ho) hP hL) hS (fun _ _ q => q) (fun _ q => q) (fun v u t H1 locs1 ht hvm hw hB h1 h2 hS1 => ?_)
  subst hw
  rw [ht] at hB
  exact kk _ b r hf H1 locs1 ls hB hS1 hL
theorem x_Sp (h : gOk Γ cc nL own ret fr lo) (hm : gMt y bytes maxL ret' n) (hi : Cond.static y ∈ gTb) (hlk : Cond.methodLink own idx y ∈ gTb) {av : (Nat → Nat) → List Value} {o : Option Int32} {f : Int32 → Option ρ} (ct : gCt y bytes maxL ret' f' l' (gQp σ) av σ o) (hst : st = (av (gAd Γ.1)).reverse ++ rest) (hn : (av (gAd Γ.1)).length = n) (hca : gCa st rest fr lo f' l' maxL nL L) (hd : decode cc pc = .ok (.invokestatic idx, 3)) (kk : ∀ v, At Γ (pc + 3) L (.int v :: rest) σ (f v)) : At Γ pc L st σ (o.bind f) := by
  intro r hr H locs ls hP hS hL
  obtain ⟨a, ho, hf⟩ := some_bind hr
  refine va_calli (a := (av (gAd Γ.1)).toArray) (free := gA Γ.1) (A1 := gA Γ.1) (gRunS h hm hi hlk hst hn hca hd (ct Γ.2.1.2.1 Γ.1 a ho) hP hL) hS (fun _ _ q => q) (fun _ q => q) (fun v u t H1 locs1 ht hvm hw hB h1 h2 hS1 => ?_)
  subst hw
  rw [ht] at hB
  exact kk _ r hf H1 locs1 ls hB hS1 hL
theorem x_Sv (h : gOk Γ cc nL own ret fr lo) (hm : gMt y bytes maxL ret' n) (hi : Cond.static y ∈ gTb) (hlk : Cond.methodLink own idx y ∈ gTb) {av : (Nat → Nat) → List Value} {o : Option gSt} {f : gSt → Option ρ} (ct : gCt y bytes maxL ret' f' l' gQv av σ o) (hst : st = (av (gAd Γ.1)).reverse ++ rest) (hn : (av (gAd Γ.1)).length = n) (hca : gCa st rest fr lo f' l' maxL nL L) (hd : decode cc pc = .ok (.invokestatic idx, 3)) (kk : ∀ σ', At Γ (pc + 3) L rest σ' (f σ')) : At Γ pc L st σ (o.bind f) := by
  intro r hr H locs ls hP hS hL
  obtain ⟨a, ho, hf⟩ := some_bind hr
  refine va_callv (a := (av (gAd Γ.1)).toArray) (free := gA Γ.1) (A1 := gA Γ.1) (gRunS h hm hi hlk hst hn hca hd (ct Γ.2.1.2.1 Γ.1 a ho) hP hL) hS (fun _ _ q => q) (fun _ q => q) (fun u t H1 locs1 ht hvm hw hB h1 h2 hS1 => ?_)
  rw [ht] at hB
  exact kk a r hf H1 locs1 ls hB hS1 hL
theorem x_Sr (h : gOk Γ cc nL own ret fr lo) (hm : gMt y bytes maxL ret' n) (hi : Cond.static y ∈ gTb) (hlk : Cond.methodLink own idx y ∈ gTb) {av : (Nat → Nat) → List Value} {o : Option Nat} {f : Nat → Option ρ} (ct : gCt y bytes maxL ret' f' l' (gQr σ) av σ o) (hst : st = (av (gAd Γ.1)).reverse ++ rest) (hn : (av (gAd Γ.1)).length = n) (hca : gCa st rest fr lo f' l' maxL nL L) (hd : decode cc pc = .ok (.invokestatic idx, 3)) (kk : ∀ q, isO q 7 → At Γ (pc + 3) L (.ref (gAd Γ.1 q) :: rest) σ (f q)) : At Γ pc L st σ (o.bind f) := by
  intro r hr H locs ls hP hS hL
  obtain ⟨a, ho, hf⟩ := some_bind hr
  refine va_callr (a := (av (gAd Γ.1)).toArray) (free := gA Γ.1) (A1 := gA Γ.1) (gRunS h hm hi hlk hst hn hca hd (ct Γ.2.1.2.1 Γ.1 a ho) hP hL) hS (fun _ _ q => q) (fun _ q => q) (fun u ra t H1 locs1 ht hvm hw hB h1 h2 hS1 => ?_)
  obtain ⟨rfl, hB⟩ := hB
  rw [ht] at hB
  exact kk a hw r hf H1 locs1 ls hB hS1 hL
theorem x_Ni (h : gOk Γ cc nL own ret fr lo) (hm : gMt y bytes maxL ret' n) (hi : Cond.static y ∈ gTb) {host : String} (hlk : (own, idx, y, host) ∈ gNl) {av : (Nat → Nat) → List Value} {o : Option (Int32 × gSt)} {f : Int32 → gSt → Option ρ} (ct : gCt y bytes maxL ret' f' l' gQi av σ o) (hst : st = (av (gAd Γ.1)).reverse ++ rest) (hn : (av (gAd Γ.1)).length = n) (hca : gCa st rest fr lo f' l' maxL nL L) (hd : decode cc pc = .ok (.invokestatic idx, 3)) (kk : ∀ v σ', At Γ (pc + 3) L (.int v :: rest) σ' (f v σ')) : At Γ pc L st σ (b2 o f) := by
  intro r hr H locs ls hP hS hL
  obtain ⟨a, b, ho, hf⟩ := some_b2 hr
  refine va_calli (a := (av (gAd Γ.1)).toArray) (free := gA Γ.1) (A1 := gA Γ.1) (gRunN h hm hi hlk hst hn hca hd (ct Γ.2.1.2.1 Γ.1 (a, b) ho) hP hL) hS (fun _ _ q => q) (fun _ q => q) (fun v u t H1 locs1 ht hvm hw hB h1 h2 hS1 => ?_)
  subst hw
  rw [ht] at hB
  exact kk _ b r hf H1 locs1 ls hB hS1 hL
theorem x_Np (h : gOk Γ cc nL own ret fr lo) (hm : gMt y bytes maxL ret' n) (hi : Cond.static y ∈ gTb) {host : String} (hlk : (own, idx, y, host) ∈ gNl) {av : (Nat → Nat) → List Value} {o : Option Int32} {f : Int32 → Option ρ} (ct : gCt y bytes maxL ret' f' l' (gQp σ) av σ o) (hst : st = (av (gAd Γ.1)).reverse ++ rest) (hn : (av (gAd Γ.1)).length = n) (hca : gCa st rest fr lo f' l' maxL nL L) (hd : decode cc pc = .ok (.invokestatic idx, 3)) (kk : ∀ v, At Γ (pc + 3) L (.int v :: rest) σ (f v)) : At Γ pc L st σ (o.bind f) := by
  intro r hr H locs ls hP hS hL
  obtain ⟨a, ho, hf⟩ := some_bind hr
  refine va_calli (a := (av (gAd Γ.1)).toArray) (free := gA Γ.1) (A1 := gA Γ.1) (gRunN h hm hi hlk hst hn hca hd (ct Γ.2.1.2.1 Γ.1 a ho) hP hL) hS (fun _ _ q => q) (fun _ q => q) (fun v u t H1 locs1 ht hvm hw hB h1 h2 hS1 => ?_)
  subst hw
  rw [ht] at hB
  exact kk _ r hf H1 locs1 ls hB hS1 hL
theorem x_Nv (h : gOk Γ cc nL own ret fr lo) (hm : gMt y bytes maxL ret' n) (hi : Cond.static y ∈ gTb) {host : String} (hlk : (own, idx, y, host) ∈ gNl) {av : (Nat → Nat) → List Value} {o : Option gSt} {f : gSt → Option ρ} (ct : gCt y bytes maxL ret' f' l' gQv av σ o) (hst : st = (av (gAd Γ.1)).reverse ++ rest) (hn : (av (gAd Γ.1)).length = n) (hca : gCa st rest fr lo f' l' maxL nL L) (hd : decode cc pc = .ok (.invokestatic idx, 3)) (kk : ∀ σ', At Γ (pc + 3) L rest σ' (f σ')) : At Γ pc L st σ (o.bind f) := by
  intro r hr H locs ls hP hS hL
  obtain ⟨a, ho, hf⟩ := some_bind hr
  refine va_callv (a := (av (gAd Γ.1)).toArray) (free := gA Γ.1) (A1 := gA Γ.1) (gRunN h hm hi hlk hst hn hca hd (ct Γ.2.1.2.1 Γ.1 a ho) hP hL) hS (fun _ _ q => q) (fun _ q => q) (fun u t H1 locs1 ht hvm hw hB h1 h2 hS1 => ?_)
  rw [ht] at hB
  exact kk a r hf H1 locs1 ls hB hS1 hL
theorem x_Nr (h : gOk Γ cc nL own ret fr lo) (hm : gMt y bytes maxL ret' n) (hi : Cond.static y ∈ gTb) {host : String} (hlk : (own, idx, y, host) ∈ gNl) {av : (Nat → Nat) → List Value} {o : Option Nat} {f : Nat → Option ρ} (ct : gCt y bytes maxL ret' f' l' (gQr σ) av σ o) (hst : st = (av (gAd Γ.1)).reverse ++ rest) (hn : (av (gAd Γ.1)).length = n) (hca : gCa st rest fr lo f' l' maxL nL L) (hd : decode cc pc = .ok (.invokestatic idx, 3)) (kk : ∀ q, isO q 7 → At Γ (pc + 3) L (.ref (gAd Γ.1 q) :: rest) σ (f q)) : At Γ pc L st σ (o.bind f) := by
  intro r hr H locs ls hP hS hL
  obtain ⟨a, ho, hf⟩ := some_bind hr
  refine va_callr (a := (av (gAd Γ.1)).toArray) (free := gA Γ.1) (A1 := gA Γ.1) (gRunN h hm hi hlk hst hn hca hd (ct Γ.2.1.2.1 Γ.1 a ho) hP hL) hS (fun _ _ q => q) (fun _ q => q) (fun u ra t H1 locs1 ht hvm hw hB h1 h2 hS1 => ?_)
  obtain ⟨rfl, hB⟩ := hB
  rw [ht] at hB
  exact kk a hw r hf H1 locs1 ls hB hS1 hL
end Calls
end
