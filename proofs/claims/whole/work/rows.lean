section
-- ===== PART A: goes FIRST, ahead of the names: the tables' words, and 'selects' of the private methods out of them =====
/-- a private method of a class that the tables say can be made, by its rows of tables_1 -/
def lw_okq (q : MethodName × Nat) : Prop := (q.1.cls ≠ "java/lang/invoke/MethodHandle" ∧ q.1.cls ≠ "java/lang/invoke/VarHandle") ∧ Cond.instantiable q.1.cls q.2 ∈ tables_1 ∧ Cond.privateMethod q.1 ∈ tables_1 ∧ Cond.instanceMethod q.1 ∈ tables_1
theorem lw_p0 : lw_okq (⟨"KeypadWriter$ListText", "readItem", "(LKeypadWriter$WordList;)Z"⟩, 3) := ⟨⟨by decide +kernel, by decide +kernel⟩, List.mem_of_getElem? (i := 28) (by decide +kernel), List.mem_of_getElem? (i := 208) (by decide +kernel), List.mem_of_getElem? (i := 209) (by decide +kernel)⟩
theorem lw_p1 : lw_okq (⟨"KeypadWriter$ListText", "readWord", "()J"⟩, 3) := ⟨⟨by decide +kernel, by decide +kernel⟩, List.mem_of_getElem? (i := 28) (by decide +kernel), List.mem_of_getElem? (i := 216) (by decide +kernel), List.mem_of_getElem? (i := 217) (by decide +kernel)⟩
theorem lw_p2 : lw_okq (⟨"KeypadWriter$ListText", "isHere", "(II)Z"⟩, 3) := ⟨⟨by decide +kernel, by decide +kernel⟩, List.mem_of_getElem? (i := 28) (by decide +kernel), List.mem_of_getElem? (i := 220) (by decide +kernel), List.mem_of_getElem? (i := 221) (by decide +kernel)⟩
theorem lw_p3 : lw_okq (⟨"KeypadWriter$ListText", "byteHere", "()I"⟩, 3) := ⟨⟨by decide +kernel, by decide +kernel⟩, List.mem_of_getElem? (i := 28) (by decide +kernel), List.mem_of_getElem? (i := 224) (by decide +kernel), List.mem_of_getElem? (i := 225) (by decide +kernel)⟩
theorem lw_p4 : lw_okq (⟨"KeypadWriter$ListText", "readCount", "()I"⟩, 3) := ⟨⟨by decide +kernel, by decide +kernel⟩, List.mem_of_getElem? (i := 28) (by decide +kernel), List.mem_of_getElem? (i := 248) (by decide +kernel), List.mem_of_getElem? (i := 249) (by decide +kernel)⟩
theorem lw_p5 : lw_okq (⟨"KeypadWriter$SavedStates", "dropOldest", "()V"⟩, 2) := ⟨⟨by decide +kernel, by decide +kernel⟩, List.mem_of_getElem? (i := 141) (by decide +kernel), List.mem_of_getElem? (i := 285) (by decide +kernel), List.mem_of_getElem? (i := 286) (by decide +kernel)⟩
theorem lw_p6 : lw_okq (⟨"KeypadWriter$SavedStates", "stateAt", "(I)LKeypadWriter$State;"⟩, 2) := ⟨⟨by decide +kernel, by decide +kernel⟩, List.mem_of_getElem? (i := 141) (by decide +kernel), List.mem_of_getElem? (i := 289) (by decide +kernel), List.mem_of_getElem? (i := 290) (by decide +kernel)⟩
theorem lw_p7 : lw_okq (⟨"KeypadWriter", "displayed", "()J"⟩, 5) := ⟨⟨by decide +kernel, by decide +kernel⟩, List.mem_of_getElem? (i := 20) (by decide +kernel), List.mem_of_getElem? (i := 318) (by decide +kernel), List.mem_of_getElem? (i := 319) (by decide +kernel)⟩
theorem lw_p8 : lw_okq (⟨"KeypadWriter$Candidates", "insert", "(LKeypadWriter$WordList;II)V"⟩, 2) := ⟨⟨by decide +kernel, by decide +kernel⟩, List.mem_of_getElem? (i := 158) (by decide +kernel), List.mem_of_getElem? (i := 344) (by decide +kernel), List.mem_of_getElem? (i := 345) (by decide +kernel)⟩
theorem lw_p9 : lw_okq (⟨"KeypadWriter$WordList", "sharesKeys", "(I)Z"⟩, 6) := ⟨⟨by decide +kernel, by decide +kernel⟩, List.mem_of_getElem? (i := 46) (by decide +kernel), List.mem_of_getElem? (i := 390) (by decide +kernel), List.mem_of_getElem? (i := 391) (by decide +kernel)⟩
theorem lw_p10 : lw_okq (⟨"KeypadWriter", "settingOf", "(I)I"⟩, 5) := ⟨⟨by decide +kernel, by decide +kernel⟩, List.mem_of_getElem? (i := 20) (by decide +kernel), List.mem_of_getElem? (i := 435) (by decide +kernel), List.mem_of_getElem? (i := 436) (by decide +kernel)⟩
theorem lw_p11 : lw_okq (⟨"KeypadWriter", "mixedWord", "(JI)J"⟩, 5) := ⟨⟨by decide +kernel, by decide +kernel⟩, List.mem_of_getElem? (i := 20) (by decide +kernel), List.mem_of_getElem? (i := 439) (by decide +kernel), List.mem_of_getElem? (i := 440) (by decide +kernel)⟩
theorem lw_p12 : lw_okq (⟨"KeypadWriter", "placeValue", "(I)I"⟩, 5) := ⟨⟨by decide +kernel, by decide +kernel⟩, List.mem_of_getElem? (i := 20) (by decide +kernel), List.mem_of_getElem? (i := 465) (by decide +kernel), List.mem_of_getElem? (i := 466) (by decide +kernel)⟩
theorem lw_p13 : lw_okq (⟨"java/lang/Throwable", "fillInStackTrace", "(I)Ljava/lang/Throwable;"⟩, 6) := ⟨⟨by decide +kernel, by decide +kernel⟩, List.mem_of_getElem? (i := 528) (by decide +kernel), List.mem_of_getElem? (i := 526) (by decide +kernel), List.mem_of_getElem? (i := 527) (by decide +kernel)⟩
theorem lw_p14 : lw_okq (⟨"KeypadWriter$WordList", "lastAdded", "()I"⟩, 6) := ⟨⟨by decide +kernel, by decide +kernel⟩, List.mem_of_getElem? (i := 46) (by decide +kernel), List.mem_of_getElem? (i := 698) (by decide +kernel), List.mem_of_getElem? (i := 699) (by decide +kernel)⟩
theorem lw_p15 : lw_okq (⟨"KeypadWriterModel", "isWord", "(I)Z"⟩, 10) := ⟨⟨by decide +kernel, by decide +kernel⟩, List.mem_of_getElem? (i := 813) (by decide +kernel), List.mem_of_getElem? (i := 858) (by decide +kernel), List.mem_of_getElem? (i := 859) (by decide +kernel)⟩
def lw_privs_1 : List (MethodName × Nat) := [(⟨"KeypadWriter$ListText", "readItem", "(LKeypadWriter$WordList;)Z"⟩, 3), (⟨"KeypadWriter$ListText", "readWord", "()J"⟩, 3), (⟨"KeypadWriter$ListText", "isHere", "(II)Z"⟩, 3), (⟨"KeypadWriter$ListText", "byteHere", "()I"⟩, 3), (⟨"KeypadWriter$ListText", "readCount", "()I"⟩, 3), (⟨"KeypadWriter$SavedStates", "dropOldest", "()V"⟩, 2), (⟨"KeypadWriter$SavedStates", "stateAt", "(I)LKeypadWriter$State;"⟩, 2), (⟨"KeypadWriter", "displayed", "()J"⟩, 5), (⟨"KeypadWriter$Candidates", "insert", "(LKeypadWriter$WordList;II)V"⟩, 2), (⟨"KeypadWriter$WordList", "sharesKeys", "(I)Z"⟩, 6), (⟨"KeypadWriter", "settingOf", "(I)I"⟩, 5), (⟨"KeypadWriter", "mixedWord", "(JI)J"⟩, 5), (⟨"KeypadWriter", "placeValue", "(I)I"⟩, 5), (⟨"java/lang/Throwable", "fillInStackTrace", "(I)Ljava/lang/Throwable;"⟩, 6), (⟨"KeypadWriter$WordList", "lastAdded", "()I"⟩, 6), (⟨"KeypadWriterModel", "isWord", "(I)Z"⟩, 10)]
theorem lw_r1 : ∀ q ∈ lw_privs_1, lw_okq q := List.forall_mem_cons.mpr ⟨lw_p0, List.forall_mem_cons.mpr ⟨lw_p1, List.forall_mem_cons.mpr ⟨lw_p2, List.forall_mem_cons.mpr ⟨lw_p3, List.forall_mem_cons.mpr ⟨lw_p4, List.forall_mem_cons.mpr ⟨lw_p5, List.forall_mem_cons.mpr ⟨lw_p6, List.forall_mem_cons.mpr ⟨lw_p7, List.forall_mem_cons.mpr ⟨lw_p8, List.forall_mem_cons.mpr ⟨lw_p9, List.forall_mem_cons.mpr ⟨lw_p10, List.forall_mem_cons.mpr ⟨lw_p11, List.forall_mem_cons.mpr ⟨lw_p12, List.forall_mem_cons.mpr ⟨lw_p13, List.forall_mem_cons.mpr ⟨lw_p14, List.forall_mem_cons.mpr ⟨lw_p15, fun _ h => absurd h List.not_mem_nil⟩⟩⟩⟩⟩⟩⟩⟩⟩⟩⟩⟩⟩⟩⟩⟩
theorem lw_p16 : lw_okq (⟨"KeypadWriterModel", "goes", "(ZZ)Z"⟩, 10) := ⟨⟨by decide +kernel, by decide +kernel⟩, List.mem_of_getElem? (i := 813) (by decide +kernel), List.mem_of_getElem? (i := 866) (by decide +kernel), List.mem_of_getElem? (i := 867) (by decide +kernel)⟩
theorem lw_p17 : lw_okq (⟨"KeypadWriterModel", "wordValue", "(II)I"⟩, 10) := ⟨⟨by decide +kernel, by decide +kernel⟩, List.mem_of_getElem? (i := 813) (by decide +kernel), List.mem_of_getElem? (i := 870) (by decide +kernel), List.mem_of_getElem? (i := 871) (by decide +kernel)⟩
theorem lw_p18 : lw_okq (⟨"KeypadWriterModel", "rankOf", "(I)I"⟩, 10) := ⟨⟨by decide +kernel, by decide +kernel⟩, List.mem_of_getElem? (i := 813) (by decide +kernel), List.mem_of_getElem? (i := 874) (by decide +kernel), List.mem_of_getElem? (i := 875) (by decide +kernel)⟩
theorem lw_p19 : lw_okq (⟨"KeypadWriterModel", "isAhead", "(II)Z"⟩, 10) := ⟨⟨by decide +kernel, by decide +kernel⟩, List.mem_of_getElem? (i := 813) (by decide +kernel), List.mem_of_getElem? (i := 878) (by decide +kernel), List.mem_of_getElem? (i := 879) (by decide +kernel)⟩
theorem lw_p20 : lw_okq (⟨"KeypadWriterModel", "of", "(II)I"⟩, 10) := ⟨⟨by decide +kernel, by decide +kernel⟩, List.mem_of_getElem? (i := 813) (by decide +kernel), List.mem_of_getElem? (i := 882) (by decide +kernel), List.mem_of_getElem? (i := 883) (by decide +kernel)⟩
theorem lw_p21 : lw_okq (⟨"KeypadWriterModel", "compares", "(II)I"⟩, 10) := ⟨⟨by decide +kernel, by decide +kernel⟩, List.mem_of_getElem? (i := 813) (by decide +kernel), List.mem_of_getElem? (i := 889) (by decide +kernel), List.mem_of_getElem? (i := 890) (by decide +kernel)⟩
theorem lw_p22 : lw_okq (⟨"KeypadWriterModel", "letterOf", "(II)I"⟩, 10) := ⟨⟨by decide +kernel, by decide +kernel⟩, List.mem_of_getElem? (i := 813) (by decide +kernel), List.mem_of_getElem? (i := 893) (by decide +kernel), List.mem_of_getElem? (i := 894) (by decide +kernel)⟩
theorem lw_p23 : lw_okq (⟨"KeypadWriterModel", "candidates", "()I"⟩, 10) := ⟨⟨by decide +kernel, by decide +kernel⟩, List.mem_of_getElem? (i := 813) (by decide +kernel), List.mem_of_getElem? (i := 905) (by decide +kernel), List.mem_of_getElem? (i := 906) (by decide +kernel)⟩
theorem lw_p24 : lw_okq (⟨"KeypadWriterModel", "groupOf", "(I)I"⟩, 10) := ⟨⟨by decide +kernel, by decide +kernel⟩, List.mem_of_getElem? (i := 813) (by decide +kernel), List.mem_of_getElem? (i := 909) (by decide +kernel), List.mem_of_getElem? (i := 910) (by decide +kernel)⟩
theorem lw_p25 : lw_okq (⟨"KeypadWriterModel", "fits", "(II)Z"⟩, 10) := ⟨⟨by decide +kernel, by decide +kernel⟩, List.mem_of_getElem? (i := 813) (by decide +kernel), List.mem_of_getElem? (i := 913) (by decide +kernel), List.mem_of_getElem? (i := 914) (by decide +kernel)⟩
theorem lw_p26 : lw_okq (⟨"KeypadWriterModel", "candidateAt", "(I)I"⟩, 10) := ⟨⟨by decide +kernel, by decide +kernel⟩, List.mem_of_getElem? (i := 813) (by decide +kernel), List.mem_of_getElem? (i := 920) (by decide +kernel), List.mem_of_getElem? (i := 921) (by decide +kernel)⟩
theorem lw_p27 : lw_okq (⟨"KeypadWriterModel", "save", "()V"⟩, 10) := ⟨⟨by decide +kernel, by decide +kernel⟩, List.mem_of_getElem? (i := 813) (by decide +kernel), List.mem_of_getElem? (i := 929) (by decide +kernel), List.mem_of_getElem? (i := 930) (by decide +kernel)⟩
theorem lw_p28 : lw_okq (⟨"KeypadWriterModel", "laysDisplay", "()V"⟩, 10) := ⟨⟨by decide +kernel, by decide +kernel⟩, List.mem_of_getElem? (i := 813) (by decide +kernel), List.mem_of_getElem? (i := 956) (by decide +kernel), List.mem_of_getElem? (i := 957) (by decide +kernel)⟩
theorem lw_p29 : lw_okq (⟨"KeypadWriterModel", "goesFromText", "(I)V"⟩, 10) := ⟨⟨by decide +kernel, by decide +kernel⟩, List.mem_of_getElem? (i := 813) (by decide +kernel), List.mem_of_getElem? (i := 968) (by decide +kernel), List.mem_of_getElem? (i := 969) (by decide +kernel)⟩
theorem lw_p30 : lw_okq (⟨"KeypadWriterModel", "uses", "()V"⟩, 10) := ⟨⟨by decide +kernel, by decide +kernel⟩, List.mem_of_getElem? (i := 813) (by decide +kernel), List.mem_of_getElem? (i := 976) (by decide +kernel), List.mem_of_getElem? (i := 977) (by decide +kernel)⟩
theorem lw_p31 : lw_okq (⟨"KeypadWriterModel", "shownWord", "()I"⟩, 10) := ⟨⟨by decide +kernel, by decide +kernel⟩, List.mem_of_getElem? (i := 813) (by decide +kernel), List.mem_of_getElem? (i := 980) (by decide +kernel), List.mem_of_getElem? (i := 981) (by decide +kernel)⟩
def lw_privs_2 : List (MethodName × Nat) := [(⟨"KeypadWriterModel", "goes", "(ZZ)Z"⟩, 10), (⟨"KeypadWriterModel", "wordValue", "(II)I"⟩, 10), (⟨"KeypadWriterModel", "rankOf", "(I)I"⟩, 10), (⟨"KeypadWriterModel", "isAhead", "(II)Z"⟩, 10), (⟨"KeypadWriterModel", "of", "(II)I"⟩, 10), (⟨"KeypadWriterModel", "compares", "(II)I"⟩, 10), (⟨"KeypadWriterModel", "letterOf", "(II)I"⟩, 10), (⟨"KeypadWriterModel", "candidates", "()I"⟩, 10), (⟨"KeypadWriterModel", "groupOf", "(I)I"⟩, 10), (⟨"KeypadWriterModel", "fits", "(II)Z"⟩, 10), (⟨"KeypadWriterModel", "candidateAt", "(I)I"⟩, 10), (⟨"KeypadWriterModel", "save", "()V"⟩, 10), (⟨"KeypadWriterModel", "laysDisplay", "()V"⟩, 10), (⟨"KeypadWriterModel", "goesFromText", "(I)V"⟩, 10), (⟨"KeypadWriterModel", "uses", "()V"⟩, 10), (⟨"KeypadWriterModel", "shownWord", "()I"⟩, 10)]
theorem lw_r2 : ∀ q ∈ lw_privs_2, lw_okq q := List.forall_mem_cons.mpr ⟨lw_p16, List.forall_mem_cons.mpr ⟨lw_p17, List.forall_mem_cons.mpr ⟨lw_p18, List.forall_mem_cons.mpr ⟨lw_p19, List.forall_mem_cons.mpr ⟨lw_p20, List.forall_mem_cons.mpr ⟨lw_p21, List.forall_mem_cons.mpr ⟨lw_p22, List.forall_mem_cons.mpr ⟨lw_p23, List.forall_mem_cons.mpr ⟨lw_p24, List.forall_mem_cons.mpr ⟨lw_p25, List.forall_mem_cons.mpr ⟨lw_p26, List.forall_mem_cons.mpr ⟨lw_p27, List.forall_mem_cons.mpr ⟨lw_p28, List.forall_mem_cons.mpr ⟨lw_p29, List.forall_mem_cons.mpr ⟨lw_p30, List.forall_mem_cons.mpr ⟨lw_p31, fun _ h => absurd h List.not_mem_nil⟩⟩⟩⟩⟩⟩⟩⟩⟩⟩⟩⟩⟩⟩⟩⟩
theorem lw_p32 : lw_okq (⟨"KeypadWriterModel", "isShown", "(I)Z"⟩, 10) := ⟨⟨by decide +kernel, by decide +kernel⟩, List.mem_of_getElem? (i := 813) (by decide +kernel), List.mem_of_getElem? (i := 984) (by decide +kernel), List.mem_of_getElem? (i := 985) (by decide +kernel)⟩
theorem lw_p33 : lw_okq (⟨"KeypadWriterModel", "adds", "(I)V"⟩, 10) := ⟨⟨by decide +kernel, by decide +kernel⟩, List.mem_of_getElem? (i := 813) (by decide +kernel), List.mem_of_getElem? (i := 988) (by decide +kernel), List.mem_of_getElem? (i := 989) (by decide +kernel)⟩
theorem lw_p34 : lw_okq (⟨"KeypadWriterModel", "lowestAdded", "()I"⟩, 10) := ⟨⟨by decide +kernel, by decide +kernel⟩, List.mem_of_getElem? (i := 813) (by decide +kernel), List.mem_of_getElem? (i := 992) (by decide +kernel), List.mem_of_getElem? (i := 993) (by decide +kernel)⟩
theorem lw_p35 : lw_okq (⟨"KeypadWriterModel", "leaves", "(I)V"⟩, 10) := ⟨⟨by decide +kernel, by decide +kernel⟩, List.mem_of_getElem? (i := 813) (by decide +kernel), List.mem_of_getElem? (i := 996) (by decide +kernel), List.mem_of_getElem? (i := 997) (by decide +kernel)⟩
theorem lw_p36 : lw_okq (⟨"KeypadWriterModel", "ages", "()V"⟩, 10) := ⟨⟨by decide +kernel, by decide +kernel⟩, List.mem_of_getElem? (i := 813) (by decide +kernel), List.mem_of_getElem? (i := 1000) (by decide +kernel), List.mem_of_getElem? (i := 1001) (by decide +kernel)⟩
theorem lw_p37 : lw_okq (⟨"KeypadWriterModel", "settingOf", "(I)I"⟩, 10) := ⟨⟨by decide +kernel, by decide +kernel⟩, List.mem_of_getElem? (i := 813) (by decide +kernel), List.mem_of_getElem? (i := 1013) (by decide +kernel), List.mem_of_getElem? (i := 1014) (by decide +kernel)⟩
theorem lw_p38 : lw_okq (⟨"KeypadWriterModel", "stepsOf", "(I)I"⟩, 10) := ⟨⟨by decide +kernel, by decide +kernel⟩, List.mem_of_getElem? (i := 813) (by decide +kernel), List.mem_of_getElem? (i := 1034) (by decide +kernel), List.mem_of_getElem? (i := 1035) (by decide +kernel)⟩
theorem lw_p39 : lw_okq (⟨"KeypadWriterModel", "haveKeys", "(II)Z"⟩, 10) := ⟨⟨by decide +kernel, by decide +kernel⟩, List.mem_of_getElem? (i := 813) (by decide +kernel), List.mem_of_getElem? (i := 1038) (by decide +kernel), List.mem_of_getElem? (i := 1039) (by decide +kernel)⟩
theorem lw_p40 : lw_okq (⟨"KeypadWriterModel", "pressesOf", "(IZ)I"⟩, 10) := ⟨⟨by decide +kernel, by decide +kernel⟩, List.mem_of_getElem? (i := 813) (by decide +kernel), List.mem_of_getElem? (i := 1046) (by decide +kernel), List.mem_of_getElem? (i := 1047) (by decide +kernel)⟩
theorem lw_p41 : lw_okq (⟨"KeypadWriterModel", "isFirst", "(II)Z"⟩, 10) := ⟨⟨by decide +kernel, by decide +kernel⟩, List.mem_of_getElem? (i := 813) (by decide +kernel), List.mem_of_getElem? (i := 1062) (by decide +kernel), List.mem_of_getElem? (i := 1063) (by decide +kernel)⟩
theorem lw_p42 : lw_okq (⟨"KeypadWriterModel", "lays", "()V"⟩, 10) := ⟨⟨by decide +kernel, by decide +kernel⟩, List.mem_of_getElem? (i := 813) (by decide +kernel), List.mem_of_getElem? (i := 1079) (by decide +kernel), List.mem_of_getElem? (i := 1080) (by decide +kernel)⟩
theorem lw_p43 : lw_okq (⟨"KeypadWriterModel", "readsItem", "()Z"⟩, 10) := ⟨⟨by decide +kernel, by decide +kernel⟩, List.mem_of_getElem? (i := 813) (by decide +kernel), List.mem_of_getElem? (i := 1083) (by decide +kernel), List.mem_of_getElem? (i := 1084) (by decide +kernel)⟩
theorem lw_p44 : lw_okq (⟨"KeypadWriterModel", "readsWord", "()Z"⟩, 10) := ⟨⟨by decide +kernel, by decide +kernel⟩, List.mem_of_getElem? (i := 813) (by decide +kernel), List.mem_of_getElem? (i := 1087) (by decide +kernel), List.mem_of_getElem? (i := 1088) (by decide +kernel)⟩
theorem lw_p45 : lw_okq (⟨"KeypadWriterModel", "here", "()I"⟩, 10) := ⟨⟨by decide +kernel, by decide +kernel⟩, List.mem_of_getElem? (i := 813) (by decide +kernel), List.mem_of_getElem? (i := 1091) (by decide +kernel), List.mem_of_getElem? (i := 1092) (by decide +kernel)⟩
theorem lw_p46 : lw_okq (⟨"KeypadWriterModel", "passesByte", "(I)Z"⟩, 10) := ⟨⟨by decide +kernel, by decide +kernel⟩, List.mem_of_getElem? (i := 813) (by decide +kernel), List.mem_of_getElem? (i := 1099) (by decide +kernel), List.mem_of_getElem? (i := 1100) (by decide +kernel)⟩
theorem lw_p47 : lw_okq (⟨"KeypadWriterModel", "takesBack", "()V"⟩, 10) := ⟨⟨by decide +kernel, by decide +kernel⟩, List.mem_of_getElem? (i := 813) (by decide +kernel), List.mem_of_getElem? (i := 1103) (by decide +kernel), List.mem_of_getElem? (i := 1104) (by decide +kernel)⟩
def lw_privs_3 : List (MethodName × Nat) := [(⟨"KeypadWriterModel", "isShown", "(I)Z"⟩, 10), (⟨"KeypadWriterModel", "adds", "(I)V"⟩, 10), (⟨"KeypadWriterModel", "lowestAdded", "()I"⟩, 10), (⟨"KeypadWriterModel", "leaves", "(I)V"⟩, 10), (⟨"KeypadWriterModel", "ages", "()V"⟩, 10), (⟨"KeypadWriterModel", "settingOf", "(I)I"⟩, 10), (⟨"KeypadWriterModel", "stepsOf", "(I)I"⟩, 10), (⟨"KeypadWriterModel", "haveKeys", "(II)Z"⟩, 10), (⟨"KeypadWriterModel", "pressesOf", "(IZ)I"⟩, 10), (⟨"KeypadWriterModel", "isFirst", "(II)Z"⟩, 10), (⟨"KeypadWriterModel", "lays", "()V"⟩, 10), (⟨"KeypadWriterModel", "readsItem", "()Z"⟩, 10), (⟨"KeypadWriterModel", "readsWord", "()Z"⟩, 10), (⟨"KeypadWriterModel", "here", "()I"⟩, 10), (⟨"KeypadWriterModel", "passesByte", "(I)Z"⟩, 10), (⟨"KeypadWriterModel", "takesBack", "()V"⟩, 10)]
theorem lw_r3 : ∀ q ∈ lw_privs_3, lw_okq q := List.forall_mem_cons.mpr ⟨lw_p32, List.forall_mem_cons.mpr ⟨lw_p33, List.forall_mem_cons.mpr ⟨lw_p34, List.forall_mem_cons.mpr ⟨lw_p35, List.forall_mem_cons.mpr ⟨lw_p36, List.forall_mem_cons.mpr ⟨lw_p37, List.forall_mem_cons.mpr ⟨lw_p38, List.forall_mem_cons.mpr ⟨lw_p39, List.forall_mem_cons.mpr ⟨lw_p40, List.forall_mem_cons.mpr ⟨lw_p41, List.forall_mem_cons.mpr ⟨lw_p42, List.forall_mem_cons.mpr ⟨lw_p43, List.forall_mem_cons.mpr ⟨lw_p44, List.forall_mem_cons.mpr ⟨lw_p45, List.forall_mem_cons.mpr ⟨lw_p46, List.forall_mem_cons.mpr ⟨lw_p47, fun _ h => absurd h List.not_mem_nil⟩⟩⟩⟩⟩⟩⟩⟩⟩⟩⟩⟩⟩⟩⟩⟩
theorem lw_p48 : lw_okq (⟨"KeypadWriterModel", "withWord", "(JI)J"⟩, 10) := ⟨⟨by decide +kernel, by decide +kernel⟩, List.mem_of_getElem? (i := 813) (by decide +kernel), List.mem_of_getElem? (i := 1120) (by decide +kernel), List.mem_of_getElem? (i := 1121) (by decide +kernel)⟩
def lw_privs_4 : List (MethodName × Nat) := [(⟨"KeypadWriterModel", "withWord", "(JI)J"⟩, 10)]
theorem lw_r4 : ∀ q ∈ lw_privs_4, lw_okq q := List.forall_mem_cons.mpr ⟨lw_p48, fun _ h => absurd h List.not_mem_nil⟩
def lw_privs : List (MethodName × Nat) := lw_privs_1 ++ (lw_privs_2 ++ (lw_privs_3 ++ (lw_privs_4)))
def lw_tbl : List Cond := k2_sels lw_privs ++ tables_1
theorem lw_privs_ok : ∀ q ∈ lw_privs, lw_okq q := by
  show ∀ q ∈ lw_privs_1 ++ (lw_privs_2 ++ (lw_privs_3 ++ (lw_privs_4))), lw_okq q
  exact List.forall_mem_append.mpr ⟨lw_r1, List.forall_mem_append.mpr ⟨lw_r2, List.forall_mem_append.mpr ⟨lw_r3, lw_r4⟩⟩⟩
/-- the streams that the claim lets the run draw from -/
abbrev lw_cs : List Choice := [Jvm.Choice.named "NaN.bits"]
theorem lw_bits : nanBits ∈ lw_cs := by first | decide | exact List.mem_cons_self | simp [lw_cs, nanBits]
-- ===== end of PART A; then your names; then what follows =====
end
section
/-! ===== BEGIN words of one list among another's, by their places ===== -/
theorem goodIn_r {big : List Cond} (ws : List Cond) (ps : List Nat) (hp : ws = ps.filterMap (fun i => big[i]?)) (h : ws.all goodWord = true) : GoodIn big ws := by
  intro w hw
  have h1 := List.all_eq_true.mp h w hw
  rw [hp] at hw
  obtain ⟨i, -, hi⟩ := List.mem_filterMap.mp hw
  have hm : w ∈ big := by first | exact List.mem_of_getElem? hi | exact List.getElem?_mem hi
  exact ⟨hm, good_of_word h1⟩
theorem goodIn_app {big a b : List Cond} (ha : GoodIn big a) (hb : GoodIn big b) : GoodIn big (a ++ b) := fun w h => (List.mem_append.mp h).elim (ha w) (hb w)
theorem goodIn_ca {big a b : List Cond} {c : Cond} (ha : GoodIn big (c :: a)) (hb : GoodIn big b) : GoodIn big (c :: (a ++ b)) := fun w h => (List.mem_cons.mp h).elim (fun e => ha w (List.mem_cons.mpr (Or.inl e))) (fun h => (List.mem_append.mp h).elim (fun h => ha w (List.mem_cons.mpr (Or.inr h))) (hb w))
theorem goodIn_sub {big ws : List Cond} (hm : ∀ w ∈ ws, w ∈ big) (h : ws.all goodWord = true) : GoodIn big ws := fun w hw => ⟨hm w hw, good_of_word (List.all_eq_true.mp h w hw)⟩
/-! ===== END ===== -/

/-! ===== BEGIN exceptions that leave a method, and their catching by the caller (launches without stack traces) ===== -/
section VXA
/-! The laws vx_back, vx_callV, vx_callS, vx_callSW, vx_throw0, vx_throwS follow proofs of the library, with one case more: JvmDerived/Free/Laws.lean (Back.of_free), Shelf42/LK1.lean (callV, callS), Shelf/KitTraced.lean (throwNew0V, throwNewS). -/
/-- where a method has thrown q: the class by its name, the cell, what was written, the world -/
def vx_T (XC : String → State → State → Prop) (st : State) (q : Addr) (t : State) (mc ms : Nat) (free : Addr → Prop) : Prop :=
  ∃ (E : String) (ce : Cell) (L : List Loc), XC E st t ∧ t.heap[q]? = some ce ∧ ce.vm = .none ∧ st.vm.findClass E = some ce.cls ∧ st.WarmedH t.vm ∧ st.sameButNew ({ t with vm := st.vm } : State) L mc ms ∧ ∀ z ∈ L, free z.base
def vx_Q (Qc : Array Value → State → Outcome → State → Prop) (XC : String → State → State → Prop) (mc ms : Nat) (free : Addr → Prop) : Array Value → State → Outcome → State → Prop := fun a st o t =>
  (Qc a st o t ∧ ∃ L, FrameEnd st o t L mc ms ∧ ∀ q ∈ L, free q.base) ∨ ∃ q, o = .threw q ∧ vx_T XC st q t mc ms free
/-- a callee that returns or throws -/
def vx_Met (l : Launch) (y : MethodName) (ws : List Cond) (rm : Room) (Pc : Array Value → State → Prop) (Qc : Array Value → State → Outcome → State → Prop) (XC : String → State → State → Prop) (mc ms : Nat) (free : Addr → Prop) : Prop :=
  MetFree l y (headSpec ws rm) Pc (fun _ _ _ _ _ => True) (vx_Q Qc XC mc ms free)
def vx_Post (XC : String → State → State → Prop) (mc ms : Nat) (free : Addr → Prop) : Pt → Array Value → Addr → Pt → Prop := fun A a q B =>
  ∃ (g : JFrame) (mk : MethodId) (t : State) (L : List Loc) (E : String) (ce : Cell), B.U.heap = t.heap ∧ B.U.vm = t.vm ∧ XC E (A.U.calling g mk a) t ∧ t.heap[q]? = some ce ∧ ce.vm = .none ∧ A.U.vm.findClass E = some ce.cls ∧ B.locs = A.locs ++ L ∧ (∀ z ∈ L, free z.base) ∧ B.cells = A.cells + mc ∧ B.slots = A.slots + ms
def vx_Back (l : Launch) (R : Room) (p : Program) (e : Env) (below : List Frame) (s : State) (sargs : Array Value) (y : MethodName) (len W9 : Nat)
    (Pre : Pt → Array Value → Prop) (Post : Pt → Array Value → Option Value → Pt → Prop) (PostX : Pt → Array Value → Addr → Pt → Prop) : Prop :=
  ∀ (m : MethodId) (meth : Method) (c : Code) (A : Pt) (g : JFrame) (ig : Instr) (mk : MethodId) (a : Array Value),
    Stand p l e R s m sargs below meth c A.U A.locs A.cells A.slots → g.method = m → g.locals.size = c.maxLocals → decode c.code g.pc = .ok (ig, len) →
    2 * g.monitorRoom + (g.stack.map fun v => v.category).sum ≤ W9 → A.U.methodNamed? y = some mk → Pre A a →
    (∃ (v : Option Value) (B : Pt), Stand p l e R s m sargs below meth c B.U B.locs B.cells B.slots ∧ Post A a v B ∧
      Steps p.tables e below (doInvoke e (A.U.setTop g) [] mk a).1 (B.U.setTop { g with pc := g.pc + len, stack := v.toList ++ g.stack })) ∨
    (∃ (q : Addr) (B : Pt), Stand p l e R s m sargs below meth c B.U B.locs B.cells B.slots ∧ PostX A a q B ∧
      Steps p.tables e below (doInvoke e (A.U.setTop g) [] mk a).1 ((B.U.setTop g).pushFrame (.throwing q)))
section Payer
variable {l : Launch} {R : Room} {p : Program} {e : Env} {below : List Frame} {s : State} {sargs : Array Value} {y : MethodName} {len W9 : Nat}
theorem vx_back {ws : List Cond} {rm : Room} {Pc : Array Value → State → Prop} {Qc : Array Value → State → Outcome → State → Prop} {XC : String → State → State → Prop} {mc ms : Nat} {free : Addr → Prop} {bytes : ByteArray} {maxL : Nat} {ret : Option FieldType}
    (hM : vx_Met l y ws rm Pc Qc XC mc ms free) (hblind : FrameBlind Pc) (hrc : rm.cells = mc) (hrs : rm.slots = ms)
    (hframes : rm.frames + 1 ≤ R.frames) (hlocals : W9 + (maxL + 11) + rm.locals ≤ R.locals)
    (hws : ∀ w ∈ ws, ∀ a' U, s.WarmedH U.vm → w.before a' U = true) (hcode : Cond.code y bytes maxL ret ∈ ws) (hinit : ∀ a' U, s.WarmedH U.vm → (Cond.initialized y.cls).before a' U = true) :
    vx_Back l R p e below s sargs y len W9 (PreOf R mc ms Pc) (PostOf Qc mc ms free) (vx_Post XC mc ms free) := by
  intro m meth c A g ig mk a X hg hsize hdg hW hn hp
  have h1 : (headSpec ws rm).pre.before a A.U = true := atoms_intro fun w hw => hws w hw _ _ X.warmed
  have h2 : (Cond.code y bytes maxL ret).before a A.U = true := hws _ hcode _ _ X.warmed
  have h3 : (Cond.initialized y.cls).before a A.U = true := hinit _ _ X.warmed
  have h4 : A.cells + (headSpec ws rm).room.cells ≤ R.cells := by rw [show (headSpec ws rm).room.cells = mc from hrc]; exact hp.1
  have h5 : A.slots + (headSpec ws rm).room.slots ≤ R.slots := by rw [show (headSpec ws rm).room.slots = ms from hrs]; exact hp.2.1
  have hPc : Pc a (A.U.calling g mk a) := hblind _ _ _ _ hp.2.2
  obtain ⟨U, Ls, c0, s0⟩ := A
  dsimp only [Pt.U, Pt.locs, Pt.cells, Pt.slots] at h1 h2 h3 h4 h5 X hn hPc ⊢
  obtain ⟨methY, cY, hmY, hcY, -, hlY, -, -, -, -⟩ := Cond.code_spec hn h2
  obtain ⟨kY, hkY, -⟩ := className_of_methodNamed hn
  have hinitY : kY.init = .initialized := Cond.initialized_spec (findClass_of_methodNamed hn) hkY h3
  have h : At U g.method c below := by rw [hg]; exact X.here
  have hlocals9 : W9 + (maxL + 11) + (headSpec ws rm).room.locals ≤ R.locals := hlocals
  have happ : (headSpec ws rm).appliesLoose y e.platform (U.calling g mk a) = true :=
    Spec.appliesLoose_calling (g := g) h hdg hn hkY hinitY
      (X.room_calling (g := g) (R' := (headSpec ws rm).room) hsize hmY hcY hframes (by rw [hlY]; omega) h4 h5) h1
  obtain ⟨mid, hmid⟩ := h.above
  have hfr : (U.setTop g).frames = (.java g :: mid) ++ below := by rw [State.frames_setTop' g h.top, hmid]; rfl
  obtain ⟨o, s₂, hsteps, -, hend, hq⟩ := Steps.callFree hM p X.admits X.cas X.clock (acts := []) hfr happ hPc trivial
  have hq' : vx_Q Qc XC mc ms free a (U.calling g mk a) o s₂ := hq
  rw [State.frames_setTop' g h.top] at hend
  obtain ⟨g₀, hg0⟩ := Option.isSome_iff_exists.mp h.top
  obtain ⟨r, hr⟩ := State.topJava?_eq_some.mp hg0
  have hr' : (({ U with heap := s₂.heap, slotsUsed := s₂.slotsUsed } : State).setVm s₂.vm).frames = .java g₀ :: r := hr
  rcases hq' with ⟨hqc, L, hfe, hL⟩ | ⟨q, rfl, E, ce, L, hx, hce, hcv, hcl, hW₂, hsm, hL⟩
  · obtain ⟨⟨v, rfl⟩, hW₂, e2, q2, q3, q4, q5, q6⟩ := id hfe
    have e3 : s₂ = ({ (U.calling g mk a).setFrames s₂.frames with heap := s₂.heap, slotsUsed := s₂.slotsUsed } : State).setVm s₂.vm := by
      have : s₂ = ({ s₂ with vm := (U.calling g mk a).vm } : State).setVm s₂.vm := rfl
      rw [e2] at this
      exact this
    obtain ⟨c₂, i₂, len₂, hc₂, hd₂, hf₂⟩ := hend
    have hW' : U.WarmedH s₂.vm := hW₂
    have hcc : c₂ = c := by
      have h1 : s₂.code? g.method = U.code? g.method := by
        rw [State.code?_eq, State.code?_eq, hW'.alike.method?]
      exact Option.some.inj (hc₂.symm.trans (h1.trans h.code))
    subst hcc
    have hlen : len₂ = len := by rw [hdg] at hd₂; cases hd₂; rfl
    subst hlen
    have hs₂ : s₂ = (({ U with heap := s₂.heap, slotsUsed := s₂.slotsUsed } : State).setVm s₂.vm).setTop { g with pc := g.pc + len₂, stack := v.toList ++ g.stack } := by
      refine e3.trans ?_
      rw [hf₂, State.calling_eq h.top, State.setFrames_setFrames, State.setTop_of_frames _ hr', hr]
      rfl
    have hsame : U.sameButNew ({ U with heap := s₂.heap, slotsUsed := s₂.slotsUsed } : State) L mc ms := by
      refine ⟨?_, q2, q3, q4, q5, q6⟩
      obtain ⟨t, ht, -⟩ := State.frames_cons hr
      show ({ U with heap := s₂.heap, slotsUsed := s₂.slotsUsed } : State) = { U.setFrames U.frames with heap := s₂.heap, slotsUsed := s₂.slotsUsed }
      rw [State.setFrames_self ht]
    subst hg
    refine Or.inl ⟨v, ⟨(({ U with heap := s₂.heap, slotsUsed := s₂.slotsUsed } : State).setVm s₂.vm), Ls ++ L, c0 + mc, s0 + ms⟩,
      ⟨X.admits, X.cas, X.clock, X.frames, X.room, X.hears, X.method, X.code, (X.here.setHeapUsed s₂.heap s₂.slotsUsed).setVm hW'.alike, X.tail, State.WarmedH.trans X.warmed hW', X.limits, X.bytes, X.same.trans (hsame.setVm s.vm)⟩,
      ⟨g, mk, s₂, L, rfl, rfl, hqc, rfl, hL, rfl, rfl⟩, ?_⟩
    show Steps p.tables e below _ ((({ U with heap := s₂.heap, slotsUsed := s₂.slotsUsed } : State).setVm s₂.vm).setTop { g with pc := g.pc + len₂, stack := v.toList ++ g.stack })
    rw [← hs₂]
    exact hsteps
  · obtain ⟨e2, q2, q3, q4, q5, q6⟩ := id hsm
    have e3 : s₂ = ({ (U.calling g mk a).setFrames s₂.frames with heap := s₂.heap, slotsUsed := s₂.slotsUsed } : State).setVm s₂.vm := by
      have : s₂ = ({ s₂ with vm := (U.calling g mk a).vm } : State).setVm s₂.vm := rfl
      rw [e2] at this
      exact this
    have hf₂ : s₂.frames = .throwing q :: .java g :: U.frames.tail := hend
    have hW' : U.WarmedH s₂.vm := hW₂
    have hs₂ : s₂ = ((({ U with heap := s₂.heap, slotsUsed := s₂.slotsUsed } : State).setVm s₂.vm).setTop g).pushFrame (.throwing q) := by
      refine e3.trans ?_
      rw [hf₂, State.calling_eq h.top, State.setFrames_setFrames, State.pushFrame, State.frames_setTop _ hr', State.setTop_of_frames _ hr', State.setFrames_setFrames, hr]
      rfl
    have hsame : U.sameButNew ({ U with heap := s₂.heap, slotsUsed := s₂.slotsUsed } : State) L mc ms := by
      refine ⟨?_, q2, q3, q4, q5, q6⟩
      obtain ⟨t, ht, -⟩ := State.frames_cons hr
      show ({ U with heap := s₂.heap, slotsUsed := s₂.slotsUsed } : State) = { U.setFrames U.frames with heap := s₂.heap, slotsUsed := s₂.slotsUsed }
      rw [State.setFrames_self ht]
    subst hg
    refine Or.inr ⟨q, ⟨(({ U with heap := s₂.heap, slotsUsed := s₂.slotsUsed } : State).setVm s₂.vm), Ls ++ L, c0 + mc, s0 + ms⟩,
      ⟨X.admits, X.cas, X.clock, X.frames, X.room, X.hears, X.method, X.code, (X.here.setHeapUsed s₂.heap s₂.slotsUsed).setVm hW'.alike, X.tail, State.WarmedH.trans X.warmed hW', X.limits, X.bytes, X.same.trans (hsame.setVm s.vm)⟩,
      ⟨g, mk, s₂, L, E, ce, rfl, rfl, hx, hce, hcv, hcl, rfl, hL, rfl, rfl⟩, ?_⟩
    show Steps p.tables e below _ (((({ U with heap := s₂.heap, slotsUsed := s₂.slotsUsed } : State).setVm s₂.vm).setTop g).pushFrame (.throwing q))
    rw [← hs₂]
    exact hsteps
end Payer
section Calls
variable {p : Program} {l : Launch} {e : Env} {R : Room} {s : State} {m : MethodId} {args : Array Value} {below : List Frame} {meth : Method} {c : Code} {T : State} {locs : List Loc} {cells slots : Nat}
theorem vx_callV (X : Stand p l e R s m args below meth c T locs cells slots) (hexec : p.tables.exec = Jvm.exec) {own C : String} {index : Nat} {y : MethodName} {bytes : ByteArray} {maxL : Nat} {ret : Option FieldType}
    (hown : s.vm.findClass own = some m.cls) (hlink : (Cond.methodLink own index y).before args s = true) (hinst : (Cond.instanceMethod y).before args s = true) (hsel : (Cond.selects C y y).before args s = true)
    (hcode : (Cond.code y bytes maxL ret).before args s = true) (hy : y.cls ≠ "java/lang/invoke/MethodHandle" ∧ y.cls ≠ "java/lang/invoke/VarHandle")
    {W9 : Nat} {Pre : Pt → Array Value → Prop} {Post : Pt → Array Value → Option Value → Pt → Prop} {PostX : Pt → Array Value → Addr → Pt → Prop} (hK : vx_Back l R p e below s args y 3 W9 Pre Post PostX)
    {b : Addr} {cellB : Cell} (hcell : T.heap[b]? = some cellB) (hobj : cellB.vm.isStatics = false) (hcls : s.vm.findClass C = some cellB.cls)
    {g : JFrame} (hg : g.method = m) (hsize : g.locals.size = c.maxLocals) {argsL rest : List Value} (hlen : ∀ sig, parseMethodDescriptor y.desc = some sig → argsL.length = sig.parameters.length)
    (hstack : g.stack = argsL.reverse ++ .ref b :: rest) (hW : 2 * g.monitorRoom + (rest.map fun v => v.category).sum ≤ W9) (hdg : decode c.code g.pc = .ok (.invokevirtual index, 3))
    (hpre : ∀ vm₁, s.WarmedH vm₁ → Pre ⟨T.setVm vm₁, locs, cells, slots⟩ (Value.ref b :: argsL).toArray) :
    (∃ (v : Option Value) (vm₁ : Vm) (B : Pt), s.WarmedH vm₁ ∧ Stand p l e R s m args below meth c B.U B.locs B.cells B.slots ∧ Post ⟨T.setVm vm₁, locs, cells, slots⟩ (Value.ref b :: argsL).toArray v B ∧
      ∀ target, Steps p.tables e below (B.U.setTop { g with pc := g.pc + 3, stack := v.toList ++ rest }) target → Steps p.tables e below (T.setTop g) target) ∨
    (∃ (q : Addr) (vm₁ : Vm) (B : Pt), s.WarmedH vm₁ ∧ Stand p l e R s m args below meth c B.U B.locs B.cells B.slots ∧ PostX ⟨T.setVm vm₁, locs, cells, slots⟩ (Value.ref b :: argsL).toArray q B ∧
      Steps p.tables e below (T.setTop g) ((B.U.setTop { g with stack := rest }).pushFrame (.throwing q))) := by
  obtain ⟨mk, methM, hnamed, hmethM, hstM, habM⟩ := Cond.instanceMethod_spec hinst
  obtain ⟨methM', cM, hmethM', -, -, -, -, -, -, hsigM⟩ := Cond.code_spec hnamed hcode
  cases hmethM.symm.trans hmethM'
  obtain ⟨c2, r2, m2, q1, q2, q3, q4, kP, hkP, hkPi⟩ := Cond.selects_spec hsel
  cases hcls.symm.trans q1
  cases (State.methodFound?_of_named hnamed hy).symm.trans q2
  cases hnamed.symm.trans q3
  have hselP : selectMethod e.platform s.vm cellB.cls mk = .method mk := by rw [Launch.admits_selectMethod X.admits]; exact q4
  obtain ⟨vm₁, X₁, hstep₁⟩ := X.invokevirtual hexec hown hlink hnamed hmethM hstM hkP hkPi hy (a := b) (cell := cellB) hcell
    (fun z h => by rw [h] at hobj; cases hobj) hselP hmethM habM hkP hkPi (g := g) hg (argsL := argsL) (rest := rest) (hlen _ hsigM) hstack hdg
  rcases hK m meth c ⟨T.setVm vm₁, locs, cells, slots⟩ { g with stack := rest } (.invokevirtual index) mk (Value.ref b :: argsL).toArray X₁ hg hsize hdg hW (X₁.named hnamed) (hpre vm₁ X₁.warmed) with ⟨v, B, X', hpost, hsteps⟩ | ⟨q, B, X', hpost, hsteps⟩
  · exact Or.inl ⟨v, vm₁, B, X₁.warmed, X', hpost, fun target h => hstep₁ _ fun acts => by rw [doInvoke_state]; exact hsteps.trans h⟩
  · exact Or.inr ⟨q, vm₁, B, X₁.warmed, X', hpost, hstep₁ _ fun acts => by rw [doInvoke_state]; exact hsteps⟩
theorem vx_callS (X : Stand p l e R s m args below meth c T locs cells slots) (hexec : p.tables.exec = Jvm.exec) {own : String} {index : Nat} {y : MethodName} {bytes : ByteArray} {maxL : Nat} {ret : Option FieldType}
    (hown : s.vm.findClass own = some m.cls) (hlink : (Cond.methodLink own index y).before args s = true) (hstat : (Cond.static y).before args s = true) (hinit : (Cond.initialized y.cls).before args s = true)
    (hcode : (Cond.code y bytes maxL ret).before args s = true) (hy : y.cls ≠ "java/lang/invoke/MethodHandle" ∧ y.cls ≠ "java/lang/invoke/VarHandle")
    {W9 : Nat} {Pre : Pt → Array Value → Prop} {Post : Pt → Array Value → Option Value → Pt → Prop} {PostX : Pt → Array Value → Addr → Pt → Prop} (hK : vx_Back l R p e below s args y 3 W9 Pre Post PostX)
    {g : JFrame} (hg : g.method = m) (hsize : g.locals.size = c.maxLocals) {argsL rest : List Value} (hlen : ∀ sig, parseMethodDescriptor y.desc = some sig → argsL.length = sig.parameters.length)
    (hstack : g.stack = argsL.reverse ++ rest) (hW : 2 * g.monitorRoom + (rest.map fun v => v.category).sum ≤ W9) (hdg : decode c.code g.pc = .ok (.invokestatic index, 3))
    (hpre : ∀ vm₁, s.WarmedH vm₁ → Pre ⟨T.setVm vm₁, locs, cells, slots⟩ argsL.toArray) :
    (∃ (v : Option Value) (vm₁ : Vm) (B : Pt), s.WarmedH vm₁ ∧ Stand p l e R s m args below meth c B.U B.locs B.cells B.slots ∧ Post ⟨T.setVm vm₁, locs, cells, slots⟩ argsL.toArray v B ∧
      ∀ target, Steps p.tables e below (B.U.setTop { g with pc := g.pc + 3, stack := v.toList ++ rest }) target → Steps p.tables e below (T.setTop g) target) ∨
    (∃ (q : Addr) (vm₁ : Vm) (B : Pt), s.WarmedH vm₁ ∧ Stand p l e R s m args below meth c B.U B.locs B.cells B.slots ∧ PostX ⟨T.setVm vm₁, locs, cells, slots⟩ argsL.toArray q B ∧
      Steps p.tables e below (T.setTop g) ((B.U.setTop { g with stack := rest }).pushFrame (.throwing q))) := by
  obtain ⟨mk, hnamed⟩ := Cond.code_named hcode
  obtain ⟨methM, cM, hmethM, -, -, -, -, -, -, hsigM⟩ := Cond.code_spec hnamed hcode
  have hstatic : methM.isStatic = true := Cond.static_spec hnamed hmethM hstat
  obtain ⟨kP, hkP, -⟩ := className_of_methodNamed hnamed
  have hinitP : kP.init = .initialized := Cond.initialized_spec (findClass_of_methodNamed hnamed) hkP hinit
  obtain ⟨vm₁, X₁, hstep₁⟩ := X.invokestatic hexec hown hlink hnamed hmethM hstatic hkP hinitP hy (g := g) hg (argsL := argsL) (rest := rest) (hlen _ hsigM) hstack hdg
  rcases hK m meth c ⟨T.setVm vm₁, locs, cells, slots⟩ { g with stack := rest } (.invokestatic index) mk argsL.toArray X₁ hg hsize hdg hW (X₁.named hnamed) (hpre vm₁ X₁.warmed) with ⟨v, B, X', hpost, hsteps⟩ | ⟨q, B, X', hpost, hsteps⟩
  · exact Or.inl ⟨v, vm₁, B, X₁.warmed, X', hpost, fun target h => hstep₁ _ fun acts => by rw [doInvoke_state]; exact hsteps.trans h⟩
  · exact Or.inr ⟨q, vm₁, B, X₁.warmed, X', hpost, hstep₁ _ fun acts => by rw [doInvoke_state]; exact hsteps⟩
end Calls
theorem vx_cls {s : State} {T : State} {vm₁ : Vm} {E : String} {k : ClassId} (hW : s.WarmedH vm₁) (h : (T.setVm vm₁).vm.findClass E = some k) : s.vm.findClass E = some k := by
  have h1 : vm₁.findClass E = some k := h
  rw [hW.alike.findClass] at h1
  exact h1
/-- the method's frame g, with q thrown over it -/
def vx_W (p : Program) (l : Launch) (e : Env) (R : Room) (s : State) (m : MethodId) (args : Array Value) (below : List Frame) (meth : Method) (c : Code) (H : Heap) (locs : List Loc) (cells slots : Nat) (Q : State → Prop) (g : JFrame) (q : Addr) : Prop :=
  ∀ T : State, T.heap = H → Stand p l e R s m args below meth c T locs cells slots → ∃ t, Steps p.tables e below ((T.setTop g).pushFrame (.throwing q)) t ∧ Q t
def vx_Run (p : Program) (l : Launch) (e : Env) (R : Room) (s : State) (m : MethodId) (args : Array Value) (below : List Frame) (meth : Method) (c : Code) (H : Heap) (locs : List Loc) (cells slots mc ms : Nat) (g : JFrame) (rest : List Value) (Qa : State → Outcome → State → Prop) (XC : String → State → State → Prop) (free : Addr → Prop) : Prop :=
  ∀ T : State, T.heap = H → Stand p l e R s m args below meth c T locs cells slots →
    (∃ (v : Option Value) (st₀ t T' : State) (L : List Loc), st₀.heap = H ∧ Stand p l e R s m args below meth c T' (locs ++ L) (cells + mc) (slots + ms) ∧ (∀ q ∈ L, free q.base) ∧ T'.heap = t.heap ∧ T'.vm = t.vm ∧ Qa st₀ (.returned v) t ∧
      Goes p e below T g T' { g with pc := g.pc + 3, stack := v.toList ++ rest }) ∨
    (∃ (q : Addr) (st₀ t T' : State) (L : List Loc) (E : String) (ce : Cell), st₀.heap = H ∧ Stand p l e R s m args below meth c T' (locs ++ L) (cells + mc) (slots + ms) ∧ (∀ z ∈ L, free z.base) ∧ T'.heap = t.heap ∧ T'.vm = t.vm ∧ XC E st₀ t ∧ t.heap[q]? = some ce ∧ ce.vm = .none ∧ s.vm.findClass E = some ce.cls ∧
      Steps p.tables e below (T.setTop g) ((T'.setTop { g with stack := rest }).pushFrame (.throwing q)))
def vx_X {S : Type} (px : S → Prop) (B : String → S → State → Prop) (A : Nat → Prop) : String → State → State → Prop := fun E st t => ∃ u : S, px u ∧ B E u t ∧ va_F A st t
section Runs
variable {p : Program} {l : Launch} {e : Env} {R : Room} {s : State} {m : MethodId} {args : Array Value} {below : List Frame} {meth : Method} {c : Code} {H : Heap} {locs : List Loc} {cells slots : Nat}
variable {y : MethodName} {bytes cc : ByteArray} {maxL nL mc ms n index : Nat} {ret : Option FieldType} {ws : List Cond} {rm : Room} {Pc : Array Value → State → Prop} {Qc : Array Value → State → Outcome → State → Prop} {XC : String → State → State → Prop} {free : Addr → Prop} {Ts : List Cond} {own C : String} {b : Addr} {As rest : List Value} {g : JFrame}
theorem vx_callBack (cb : CallB R s args own index y bytes maxL ret ws rm mc ms n) (hM : vx_Met l y ws rm Pc Qc XC mc ms free) (hbl : FrameBlind Pc) : vx_Back l R p e below s args y 3 8 (PreOf R mc ms Pc) (PostOf Qc mc ms free) (vx_Post XC mc ms free) := by
  obtain ⟨hrc, hrs, hfr, hlo, hws, hcw, -, hini, -⟩ := cb
  exact vx_back (bytes := bytes) (maxL := maxL) (ret := ret) hM hbl hrc hrs hfr hlo hws hcw (fun a' U hW => word_at hW (Or.inl (by first | rfl | simp [Cond.onTables, Cond.keeps, Cond.steady])) hini)
theorem vx_runV (S : CallFix p m c cc nL s args Ts own) (hM : vx_Met l y ws rm Pc Qc XC mc ms free) (cw : CallW R s args own C index y bytes maxL ret ws rm mc ms n) (hp : PreV s H C b Pc As)
    (hg : g.method = m) (hn : As.length = n) (hsize : g.locals.size = nL) (hstack : g.stack = As.reverse ++ .ref b :: rest) (hW : 2 * g.monitorRoom + (rest.map fun v => v.category).sum ≤ 8) (hdg : decode cc g.pc = .ok (.invokevirtual index, 3)) (hf : cells + mc ≤ R.cells ∧ slots + ms ≤ R.slots) :
    vx_Run p l e R s m args below meth c H locs cells slots mc ms g rest (Qc (Value.ref b :: As).toArray) XC free := by
  have hK : vx_Back l R p e below s args y 3 8 (PreOf R mc ms Pc) (PostOf Qc mc ms free) (vx_Post XC mc ms free) := vx_callBack cw.1 hM hp.1
  obtain ⟨⟨-, -, -, -, -, -, hcode, -, hy, hlen, hl⟩, hin, hse⟩ := cw
  obtain ⟨hx, hb, hml, ho, -⟩ := S
  obtain ⟨-, ⟨cellB, hcB, hoB, hclB⟩, hPc⟩ := hp
  intro T hT X
  rcases vx_callV X hx (C := C) (bytes := bytes) (maxL := maxL) (ret := ret) ho hl hin hse hcode hy hK (by rw [hT]; exact hcB) hoB hclB hg (hsize.trans hml.symm) (argsL := As) (rest := rest) (fun sig h => hn.trans (hlen sig h)) hstack hW (by rw [hb]; exact hdg)
    (fun vm₁ hW₁ => ⟨hf.1, hf.2, hPc (T.setVm vm₁) hT hW₁⟩) with ⟨v, vm₁, ⟨U', l2, c2, s2⟩, hW₁, X', ⟨g', mk, t, L, e1, e2, hq, h1, hL, h2, h3⟩, st⟩ | ⟨q, vm₁, ⟨U', l2, c2, s2⟩, hW₁, X', ⟨g', mk, t, L, E, ce, e1, e2, hq, hce, hcv, hcl, h1, hL, h2, h3⟩, st⟩
  · dsimp only [Pt.U, Pt.locs, Pt.cells, Pt.slots] at X' e1 e2 h1 h2 h3 st
    subst h1; subst h2; subst h3
    exact Or.inl ⟨v, (T.setVm vm₁).calling g' mk (Value.ref b :: As).toArray, t, U', L, hT, X', hL, e1, e2, hq, st⟩
  · dsimp only [Pt.U, Pt.locs, Pt.cells, Pt.slots] at X' e1 e2 h1 h2 h3 st hcl
    subst h1; subst h2; subst h3
    exact Or.inr ⟨q, (T.setVm vm₁).calling g' mk (Value.ref b :: As).toArray, t, U', L, E, ce, hT, X', hL, e1, e2, hq, hce, hcv, vx_cls hW₁ hcl, st⟩
theorem vx_runS (S : CallFix p m c cc nL s args Ts own) (hM : vx_Met l y ws rm Pc Qc XC mc ms free) (cw : CallB R s args own index y bytes maxL ret ws rm mc ms n ∧ (Cond.static y).before args s = true) (hp : PreS s H Pc As)
    (hg : g.method = m) (hn : As.length = n) (hsize : g.locals.size = nL) (hstack : g.stack = As.reverse ++ rest) (hW : 2 * g.monitorRoom + (rest.map fun v => v.category).sum ≤ 8) (hdg : decode cc g.pc = .ok (.invokestatic index, 3)) (hf : cells + mc ≤ R.cells ∧ slots + ms ≤ R.slots) :
    vx_Run p l e R s m args below meth c H locs cells slots mc ms g rest (Qc As.toArray) XC free := by
  have hK : vx_Back l R p e below s args y 3 8 (PreOf R mc ms Pc) (PostOf Qc mc ms free) (vx_Post XC mc ms free) := vx_callBack cw.1 hM hp.1
  obtain ⟨⟨-, -, -, -, -, -, hcode, hini, hy, hlen, hl⟩, hstt⟩ := cw
  obtain ⟨hx, hb, hml, ho, -⟩ := S
  intro T hT X
  rcases vx_callS X hx (bytes := bytes) (maxL := maxL) (ret := ret) ho hl hstt hini hcode hy hK hg (hsize.trans hml.symm) (argsL := As) (rest := rest) (fun sig h => hn.trans (hlen sig h)) hstack hW (by rw [hb]; exact hdg)
    (fun vm₁ hW₁ => ⟨hf.1, hf.2, hp.2 (T.setVm vm₁) hT hW₁⟩) with ⟨v, vm₁, ⟨U', l2, c2, s2⟩, hW₁, X', ⟨g', mk, t, L, e1, e2, hq, h1, hL, h2, h3⟩, st⟩ | ⟨q, vm₁, ⟨U', l2, c2, s2⟩, hW₁, X', ⟨g', mk, t, L, E, ce, e1, e2, hq, hce, hcv, hcl, h1, hL, h2, h3⟩, st⟩
  · dsimp only [Pt.U, Pt.locs, Pt.cells, Pt.slots] at X' e1 e2 h1 h2 h3 st
    subst h1; subst h2; subst h3
    exact Or.inl ⟨v, (T.setVm vm₁).calling g' mk As.toArray, t, U', L, hT, X', hL, e1, e2, hq, st⟩
  · dsimp only [Pt.U, Pt.locs, Pt.cells, Pt.slots] at X' e1 e2 h1 h2 h3 st hcl
    subst h1; subst h2; subst h3
    exact Or.inr ⟨q, (T.setVm vm₁).calling g' mk As.toArray, t, U', L, E, ce, hT, X', hL, e1, e2, hq, hce, hcv, vx_cls hW₁ hcl, st⟩
end Runs
section Rows
variable {p : Program} {l : Launch} {e : Env} {R : Room} {s : State} {m : MethodId} {args : Array Value} {below : List Frame} {meth : Method} {c : Code} {H : Heap} {locs : List Loc} {cells slots : Nat} {Q : State → Prop}
variable {mc ms : Nat} {free : Addr → Prop} {A0 A1 : Nat → Prop} {H0 : Heap} {a : Array Value} {pc : Nat} {ls : Array Slot} {st0 rest : List Value}
theorem vx_keep {st₀ t T' : State} {L : List Loc} (h0 : st₀.heap = H) (e1 : T'.heap = t.heap) (hS : va_S A0 H0 H locs) (hA : ∀ q, q < H.size → A1 q → A0 q) (hf : ∀ q, free q → A0 q) (hL : ∀ q ∈ L, free q.base) (hF : va_F A1 st₀ t) :
    H.size ≤ T'.heap.size ∧ (∀ q : Nat, q < H.size → ¬ A1 q → T'.heap[q]? = H[q]?) ∧ va_S A0 H0 T'.heap (locs ++ L) := by
  obtain ⟨hz, hk⟩ := hF
  rw [h0] at hz hk
  exact ⟨by rw [e1]; exact hz, fun q h1 h2 => by rw [e1]; exact hk q h1 h2,
    ⟨Nat.le_trans hS.1 (by rw [e1]; exact hz), fun q h1 h2 => by rw [e1, hk q (Nat.lt_of_lt_of_le h1 hS.1) (fun z => h2 (hA q (Nat.lt_of_lt_of_le h1 hS.1) z))]; exact hS.2.1 q h1 h2, fun q hq => by
      rcases List.mem_append.mp hq with h | h
      · exact hS.2.2 q h
      · exact hf _ (hL q h)⟩⟩
theorem vx_calli {S SX : Type} {post : Int32 → S → Prop} {px : SX → Prop} {B : S → State → Prop} {BX : String → SX → State → Prop} {AX : Nat → Prop} (hr : vx_Run p l e R s m args below meth c H locs cells slots mc ms (F0 m pc ls st0) rest (va_Qi post B A1 a) (vx_X px BX AX) free) (hS : va_S A0 H0 H locs) (hA : ∀ q, q < H.size → A1 q → A0 q) (hf : ∀ q, free q → A0 q) (hAX : ∀ q, q < H.size → AX q → A0 q)
    (kx : ∀ (E : String) (ce : Cell) (q9 : Addr) (u : SX) (t : State) (H1 : Heap) (locs1 : List Loc), t.heap = H1 → s.vm.Alike t.vm → px u → BX E u t → H.size ≤ H1.size → (∀ q : Nat, q < H.size → ¬ AX q → H1[q]? = H[q]?) → va_S A0 H0 H1 locs1 → H1[q9]? = some ce → ce.vm = .none → s.vm.findClass E = some ce.cls → vx_W p l e R s m args below meth c H1 locs1 (cells + mc) (slots + ms) Q (F0 m pc ls rest) q9)
    (kk : ∀ (r : Int32) (u : S) (t : State) (H1 : Heap) (locs1 : List Loc), t.heap = H1 → s.vm.Alike t.vm → post r u → B u t → H.size ≤ H1.size → (∀ q : Nat, q < H.size → ¬ A1 q → H1[q]? = H[q]?) → va_S A0 H0 H1 locs1 → W p l e R s m args below meth c H1 locs1 (cells + mc) (slots + ms) Q (F0 m (pc + 3) ls (.int r :: rest))) : W p l e R s m args below meth c H locs cells slots Q (F0 m pc ls st0) := by
  intro T hT X
  rcases hr T hT X with ⟨v, st₀, t, T', L, h0, X', hL, e1, e2, ⟨⟨r, u, hv, hp, hb⟩, hF⟩, st⟩ | ⟨q, st₀, t, T', L, E, ce, h0, X', hL, e1, e2, ⟨u, hp, hb, hF⟩, hce, hcv, hcl, st⟩
  · cases hv
    obtain ⟨k1, k2, k3⟩ := vx_keep h0 e1 hS hA hf hL hF
    obtain ⟨t2, a1, b1⟩ := kk r u t T'.heap (locs ++ L) e1.symm (by rw [← e2]; exact X'.warmed.alike) hp hb k1 k2 k3 T' rfl X'
    exact ⟨t2, st t2 a1, b1⟩
  · obtain ⟨k1, k2, k3⟩ := vx_keep h0 e1 hS hAX hf hL hF
    obtain ⟨t2, a1, b1⟩ := kx E ce q u t T'.heap (locs ++ L) e1.symm (by rw [← e2]; exact X'.warmed.alike) hp hb k1 k2 k3 (by rw [e1]; exact hce) hcv hcl T' rfl X'
    exact ⟨t2, st.trans a1, b1⟩
theorem vx_calll {S SX : Type} {post : Int64 → S → Prop} {px : SX → Prop} {B : S → State → Prop} {BX : String → SX → State → Prop} {AX : Nat → Prop} (hr : vx_Run p l e R s m args below meth c H locs cells slots mc ms (F0 m pc ls st0) rest (va_Ql post B A1 a) (vx_X px BX AX) free) (hS : va_S A0 H0 H locs) (hA : ∀ q, q < H.size → A1 q → A0 q) (hf : ∀ q, free q → A0 q) (hAX : ∀ q, q < H.size → AX q → A0 q)
    (kx : ∀ (E : String) (ce : Cell) (q9 : Addr) (u : SX) (t : State) (H1 : Heap) (locs1 : List Loc), t.heap = H1 → s.vm.Alike t.vm → px u → BX E u t → H.size ≤ H1.size → (∀ q : Nat, q < H.size → ¬ AX q → H1[q]? = H[q]?) → va_S A0 H0 H1 locs1 → H1[q9]? = some ce → ce.vm = .none → s.vm.findClass E = some ce.cls → vx_W p l e R s m args below meth c H1 locs1 (cells + mc) (slots + ms) Q (F0 m pc ls rest) q9)
    (kk : ∀ (r : Int64) (u : S) (t : State) (H1 : Heap) (locs1 : List Loc), t.heap = H1 → s.vm.Alike t.vm → post r u → B u t → H.size ≤ H1.size → (∀ q : Nat, q < H.size → ¬ A1 q → H1[q]? = H[q]?) → va_S A0 H0 H1 locs1 → W p l e R s m args below meth c H1 locs1 (cells + mc) (slots + ms) Q (F0 m (pc + 3) ls (.long r :: rest))) : W p l e R s m args below meth c H locs cells slots Q (F0 m pc ls st0) := by
  intro T hT X
  rcases hr T hT X with ⟨v, st₀, t, T', L, h0, X', hL, e1, e2, ⟨⟨r, u, hv, hp, hb⟩, hF⟩, st⟩ | ⟨q, st₀, t, T', L, E, ce, h0, X', hL, e1, e2, ⟨u, hp, hb, hF⟩, hce, hcv, hcl, st⟩
  · cases hv
    obtain ⟨k1, k2, k3⟩ := vx_keep h0 e1 hS hA hf hL hF
    obtain ⟨t2, a1, b1⟩ := kk r u t T'.heap (locs ++ L) e1.symm (by rw [← e2]; exact X'.warmed.alike) hp hb k1 k2 k3 T' rfl X'
    exact ⟨t2, st t2 a1, b1⟩
  · obtain ⟨k1, k2, k3⟩ := vx_keep h0 e1 hS hAX hf hL hF
    obtain ⟨t2, a1, b1⟩ := kx E ce q u t T'.heap (locs ++ L) e1.symm (by rw [← e2]; exact X'.warmed.alike) hp hb k1 k2 k3 (by rw [e1]; exact hce) hcv hcl T' rfl X'
    exact ⟨t2, st.trans a1, b1⟩
theorem vx_callf {S SX : Type} {post : UInt32 → S → Prop} {px : SX → Prop} {B : S → State → Prop} {BX : String → SX → State → Prop} {AX : Nat → Prop} (hr : vx_Run p l e R s m args below meth c H locs cells slots mc ms (F0 m pc ls st0) rest (va_Qf post B A1 a) (vx_X px BX AX) free) (hS : va_S A0 H0 H locs) (hA : ∀ q, q < H.size → A1 q → A0 q) (hf : ∀ q, free q → A0 q) (hAX : ∀ q, q < H.size → AX q → A0 q)
    (kx : ∀ (E : String) (ce : Cell) (q9 : Addr) (u : SX) (t : State) (H1 : Heap) (locs1 : List Loc), t.heap = H1 → s.vm.Alike t.vm → px u → BX E u t → H.size ≤ H1.size → (∀ q : Nat, q < H.size → ¬ AX q → H1[q]? = H[q]?) → va_S A0 H0 H1 locs1 → H1[q9]? = some ce → ce.vm = .none → s.vm.findClass E = some ce.cls → vx_W p l e R s m args below meth c H1 locs1 (cells + mc) (slots + ms) Q (F0 m pc ls rest) q9)
    (kk : ∀ (r : UInt32) (u : S) (t : State) (H1 : Heap) (locs1 : List Loc), t.heap = H1 → s.vm.Alike t.vm → post r u → B u t → H.size ≤ H1.size → (∀ q : Nat, q < H.size → ¬ A1 q → H1[q]? = H[q]?) → va_S A0 H0 H1 locs1 → W p l e R s m args below meth c H1 locs1 (cells + mc) (slots + ms) Q (F0 m (pc + 3) ls (.float r :: rest))) : W p l e R s m args below meth c H locs cells slots Q (F0 m pc ls st0) := by
  intro T hT X
  rcases hr T hT X with ⟨v, st₀, t, T', L, h0, X', hL, e1, e2, ⟨⟨r, u, hv, hp, hb⟩, hF⟩, st⟩ | ⟨q, st₀, t, T', L, E, ce, h0, X', hL, e1, e2, ⟨u, hp, hb, hF⟩, hce, hcv, hcl, st⟩
  · cases hv
    obtain ⟨k1, k2, k3⟩ := vx_keep h0 e1 hS hA hf hL hF
    obtain ⟨t2, a1, b1⟩ := kk r u t T'.heap (locs ++ L) e1.symm (by rw [← e2]; exact X'.warmed.alike) hp hb k1 k2 k3 T' rfl X'
    exact ⟨t2, st t2 a1, b1⟩
  · obtain ⟨k1, k2, k3⟩ := vx_keep h0 e1 hS hAX hf hL hF
    obtain ⟨t2, a1, b1⟩ := kx E ce q u t T'.heap (locs ++ L) e1.symm (by rw [← e2]; exact X'.warmed.alike) hp hb k1 k2 k3 (by rw [e1]; exact hce) hcv hcl T' rfl X'
    exact ⟨t2, st.trans a1, b1⟩
theorem vx_calld {S SX : Type} {post : UInt64 → S → Prop} {px : SX → Prop} {B : S → State → Prop} {BX : String → SX → State → Prop} {AX : Nat → Prop} (hr : vx_Run p l e R s m args below meth c H locs cells slots mc ms (F0 m pc ls st0) rest (va_Qd post B A1 a) (vx_X px BX AX) free) (hS : va_S A0 H0 H locs) (hA : ∀ q, q < H.size → A1 q → A0 q) (hf : ∀ q, free q → A0 q) (hAX : ∀ q, q < H.size → AX q → A0 q)
    (kx : ∀ (E : String) (ce : Cell) (q9 : Addr) (u : SX) (t : State) (H1 : Heap) (locs1 : List Loc), t.heap = H1 → s.vm.Alike t.vm → px u → BX E u t → H.size ≤ H1.size → (∀ q : Nat, q < H.size → ¬ AX q → H1[q]? = H[q]?) → va_S A0 H0 H1 locs1 → H1[q9]? = some ce → ce.vm = .none → s.vm.findClass E = some ce.cls → vx_W p l e R s m args below meth c H1 locs1 (cells + mc) (slots + ms) Q (F0 m pc ls rest) q9)
    (kk : ∀ (r : UInt64) (u : S) (t : State) (H1 : Heap) (locs1 : List Loc), t.heap = H1 → s.vm.Alike t.vm → post r u → B u t → H.size ≤ H1.size → (∀ q : Nat, q < H.size → ¬ A1 q → H1[q]? = H[q]?) → va_S A0 H0 H1 locs1 → W p l e R s m args below meth c H1 locs1 (cells + mc) (slots + ms) Q (F0 m (pc + 3) ls (.double r :: rest))) : W p l e R s m args below meth c H locs cells slots Q (F0 m pc ls st0) := by
  intro T hT X
  rcases hr T hT X with ⟨v, st₀, t, T', L, h0, X', hL, e1, e2, ⟨⟨r, u, hv, hp, hb⟩, hF⟩, st⟩ | ⟨q, st₀, t, T', L, E, ce, h0, X', hL, e1, e2, ⟨u, hp, hb, hF⟩, hce, hcv, hcl, st⟩
  · cases hv
    obtain ⟨k1, k2, k3⟩ := vx_keep h0 e1 hS hA hf hL hF
    obtain ⟨t2, a1, b1⟩ := kk r u t T'.heap (locs ++ L) e1.symm (by rw [← e2]; exact X'.warmed.alike) hp hb k1 k2 k3 T' rfl X'
    exact ⟨t2, st t2 a1, b1⟩
  · obtain ⟨k1, k2, k3⟩ := vx_keep h0 e1 hS hAX hf hL hF
    obtain ⟨t2, a1, b1⟩ := kx E ce q u t T'.heap (locs ++ L) e1.symm (by rw [← e2]; exact X'.warmed.alike) hp hb k1 k2 k3 (by rw [e1]; exact hce) hcv hcl T' rfl X'
    exact ⟨t2, st.trans a1, b1⟩
theorem vx_callv {S SX : Type} {post : S → Prop} {px : SX → Prop} {B : S → State → Prop} {BX : String → SX → State → Prop} {AX : Nat → Prop} (hr : vx_Run p l e R s m args below meth c H locs cells slots mc ms (F0 m pc ls st0) rest (va_Qv post B A1 a) (vx_X px BX AX) free) (hS : va_S A0 H0 H locs) (hA : ∀ q, q < H.size → A1 q → A0 q) (hf : ∀ q, free q → A0 q) (hAX : ∀ q, q < H.size → AX q → A0 q)
    (kx : ∀ (E : String) (ce : Cell) (q9 : Addr) (u : SX) (t : State) (H1 : Heap) (locs1 : List Loc), t.heap = H1 → s.vm.Alike t.vm → px u → BX E u t → H.size ≤ H1.size → (∀ q : Nat, q < H.size → ¬ AX q → H1[q]? = H[q]?) → va_S A0 H0 H1 locs1 → H1[q9]? = some ce → ce.vm = .none → s.vm.findClass E = some ce.cls → vx_W p l e R s m args below meth c H1 locs1 (cells + mc) (slots + ms) Q (F0 m pc ls rest) q9)
    (kk : ∀ (u : S) (t : State) (H1 : Heap) (locs1 : List Loc), t.heap = H1 → s.vm.Alike t.vm → post u → B u t → H.size ≤ H1.size → (∀ q : Nat, q < H.size → ¬ A1 q → H1[q]? = H[q]?) → va_S A0 H0 H1 locs1 → W p l e R s m args below meth c H1 locs1 (cells + mc) (slots + ms) Q (F0 m (pc + 3) ls (rest))) : W p l e R s m args below meth c H locs cells slots Q (F0 m pc ls st0) := by
  intro T hT X
  rcases hr T hT X with ⟨v, st₀, t, T', L, h0, X', hL, e1, e2, ⟨⟨u, hv, hp, hb⟩, hF⟩, st⟩ | ⟨q, st₀, t, T', L, E, ce, h0, X', hL, e1, e2, ⟨u, hp, hb, hF⟩, hce, hcv, hcl, st⟩
  · cases hv
    obtain ⟨k1, k2, k3⟩ := vx_keep h0 e1 hS hA hf hL hF
    obtain ⟨t2, a1, b1⟩ := kk u t T'.heap (locs ++ L) e1.symm (by rw [← e2]; exact X'.warmed.alike) hp hb k1 k2 k3 T' rfl X'
    exact ⟨t2, st t2 a1, b1⟩
  · obtain ⟨k1, k2, k3⟩ := vx_keep h0 e1 hS hAX hf hL hF
    obtain ⟨t2, a1, b1⟩ := kx E ce q u t T'.heap (locs ++ L) e1.symm (by rw [← e2]; exact X'.warmed.alike) hp hb k1 k2 k3 (by rw [e1]; exact hce) hcv hcl T' rfl X'
    exact ⟨t2, st.trans a1, b1⟩
/-- caught by the row x of this method's table; the rows ahead don't take it -/
theorem vx_catch {own name : String} {E : String} {ce : Cell} {q : Addr} (hown : s.vm.findClass own = some m.cls) (pre : List ExceptionTableEntry) (x : ExceptionTableEntry) (suf : List ExceptionTableEntry) (hsplit : c.exceptionTable.toList = pre ++ x :: suf)
    (hpass : ∀ z ∈ pre, covers z pc = false ∨ (z.catchType ≠ 0 ∧ ∃ nm : String, (Cond.classLink own z.catchType nm).before args s = true ∧ va_Nc E nm s)) (hx : covers x pc = true) (h0 : x.catchType ≠ 0)
    (hlink : (Cond.classLink own x.catchType name).before args s = true) (hcast : (Cond.castable E name).before args s = true) (hcell : H[q]? = some ce) (hv : ce.vm = .none) (hcl : s.vm.findClass E = some ce.cls)
    (kk : W p l e R s m args below meth c H locs cells slots Q (F0 m x.handlerPc ls [.ref q])) : vx_W p l e R s m args below meth c H locs cells slots Q (F0 m pc ls rest) q := by
  intro T hT X
  have hpl : e.platform.magicAccessors = ({} : Platform).magicAccessors := by rw [X.admits.platform]
  obtain ⟨c3, c4, hc3, hc4, hasg⟩ := Cond.castable_spec hcast
  cases Option.some.inj (hc3.symm.trans hcl)
  obtain ⟨c5, hc5, hcl5⟩ := Cond.classLink_spec hown hlink e.platform hpl
  cases Option.some.inj (hc4.symm.trans hc5)
  obtain ⟨vm', X', st⟩ := X.thenCaughtThrough q (g := F0 m pc ls rest) rfl (Steps.refl _) (by rw [hT]; exact hcell) (by rw [hv]; rfl) (by obtain ⟨k9, h9, -⟩ := Vm.findClass_spec hcl; exact ⟨k9, h9⟩) pre x suf hsplit
    (fun z hz => by
      rcases hpass z hz with h | ⟨hz0, nm, hl1, hn1⟩
      · exact Or.inl h
      · obtain ⟨c6, hc6, hcl6⟩ := Cond.classLink_spec hown hl1 e.platform hpl
        obtain ⟨a8, b8, h1, h2, h3⟩ := hn1
        cases Option.some.inj (h1.symm.trans hcl)
        cases Option.some.inj (h2.symm.trans hc6)
        exact Or.inr ⟨hz0, _, hcl6, h3⟩) hx (Or.inr ⟨h0, c4, hcl5, hasg⟩)
  obtain ⟨t, a1, b1⟩ := kk (T.setVm vm') hT X'
  exact ⟨t, st.trans a1, b1⟩
end Rows
section Ends
variable {p : Program} {l : Launch} {e : Env} {R : Room} {s : State} {m : MethodId} {args : Array Value} {below : List Frame} {meth : Method} {c : Code} {H : Heap} {locs : List Loc} {cells slots : Nat} {Q : State → Prop}
variable {mc ms : Nat} {free : Addr → Prop} {A0 A1 : Nat → Prop} {H0 : Heap} {a : Array Value} {ls : Array Slot} {st0 rest : List Value}
variable {Qc : Array Value → State → Outcome → State → Prop} {XC : String → State → State → Prop}
/-- what a body that may throw owes at its end -/
def vx_MQ (below : List Frame) (Qc : Array Value → State → Outcome → State → Prop) (XC : String → State → State → Prop) (a : Array Value) (s : State) (mc ms : Nat) (free : Addr → Prop) : State → Prop := fun t =>
  ∃ o, t.status = .running ∧ Ended t below o ∧ vx_Q Qc XC mc ms free a s o t
theorem vx_ret {g : JFrame} {mc ms : Nat} (k : W p l e R s m args below meth c H locs cells slots (MQ below Qc args s mc ms free) g) : W p l e R s m args below meth c H locs cells slots (vx_MQ below Qc XC args s mc ms free) g := by
  intro T hT X
  obtain ⟨t, a1, o, b1, b2, b3, b4⟩ := k T hT X
  exact ⟨t, a1, o, b1, b2, Or.inl ⟨b3, b4⟩⟩
/-- not caught here: it goes on to the caller -/
theorem vx_widen {g : JFrame} {q : Addr} {k n : Nat} (h1 : cells ≤ k) (h2 : slots ≤ n) (kk : vx_W p l e R s m args below meth c H locs k n Q g q) : vx_W p l e R s m args below meth c H locs cells slots Q g q := fun T hT X => kk T hT (stand_widen X h1 h2)
theorem vx_out {pc : Nat} {E : String} {ce : Cell} {q : Addr} {mc ms : Nat} (hout : ∀ x ∈ c.exceptionTable.toList, covers x pc = false) (hlocks : meth.locks = false) (hcell : H[q]? = some ce) (hv : ce.vm = .none) (hcl : s.vm.findClass E = some ce.cls)
    (hx : ∀ t : State, t.heap = H → s.vm.Alike t.vm → XC E s t) (hf : ∀ z ∈ locs, free z.base) (hc : cells ≤ mc) (hs : slots ≤ ms) :
    vx_W p l e R s m args below meth c H locs cells slots (vx_MQ below Qc XC args s mc ms free) (F0 m pc ls rest) q := by
  intro T hT X
  obtain ⟨st1, hrun, hend, hW, hsm⟩ := X.leaveThrown q (g := F0 m pc ls rest) rfl rfl rfl hout hlocks
  have hcell9 : (T.setFrames (.throwing q :: below)).heap[q]? = some ce := by
    show T.heap[q]? = some ce
    rw [hT]; exact hcell
  exact ⟨_, st1, .threw q, hrun, hend, Or.inr ⟨q, rfl, E, ce, locs, hx _ hT hW.alike, hcell9, hv, hcl, hW, hsm.mono hc hs, hf⟩⟩
theorem vx_frame {U : State} {k n : Nat} (h : s.sameButNew ({ U with vm := s.vm } : State) locs k n) : s.heap.size ≤ U.heap.size ∧ ∀ q : Nat, q < s.heap.size → (∀ z ∈ locs, z.base ≠ q) → U.heap[q]? = s.heap[q]? := by
  obtain ⟨-, h2, -, -, -, h6⟩ := h
  refine ⟨h2, fun q hq hz => ?_⟩
  obtain ⟨c9, e1, e2, e3, e4⟩ := h6 q _ (Array.getElem?_eq_getElem hq)
  have hs : c9.slots = (s.heap[q]).slots := Array.ext_getElem? fun i => e4 i fun hm => hz _ hm rfl
  have h9 : c9 = s.heap[q] := by
    rw [hs] at e2
    exact e2
  have e5 : U.heap[q]? = some c9 := e1
  rw [e5, h9, Array.getElem?_eq_getElem hq]
/-- the words of a throw but the four that speak of the heap -/
def vx_no (w : Cond) : Bool := decide (w ≠ .isRef (.static Bundle.tN "UNASSIGNED_STACK" Bundle.steD)) && decide (w ≠ .isRef (.static Bundle.tN "SUPPRESSED_SENTINEL" Bundle.listD)) && decide (w ≠ .laysStatic Bundle.tN "UNASSIGNED_STACK" Bundle.steD) && decide (w ≠ .laysStatic Bundle.tN "SUPPRESSED_SENTINEL" Bundle.listD)
def vx_at0 (own : String) (ic : Nat) (X : String) (names : List String) : List Cond := (Bundle.ownAtoms0 own ic X names).filter vx_no
def vx_atS (own : String) (ic : Nat) (X : String) (names : List String) : List Cond := (Bundle.ownAtoms own ic X names).filter vx_no
/-- a word that the tables alone decide, or a good one -/
def vx_ot (w : Cond) : Bool := w.onTables || goodWord w
theorem vx_ot_at {args a' : Array Value} {s U : State} {w : Cond} (hW : s.WarmedH U.vm) (hvm : s.vm = U.vm) (hg : vx_ot w = true) (h : w.before args s = true) : w.before a' U = true := by
  simp only [vx_ot, Bool.or_eq_true] at hg
  rcases hg with hg | hg
  · exact va_tabs hg hvm h
  · exact word_at hW (good_of_word hg) h
/-- a list's words: the good ones out of the method's own list, the others by premises of their own -/
theorem vx_hat {args : Array Value} {s : State} {L B : List Cond} (h1 : ∀ w ∈ L.filter goodWord, w.before args s = true) (h2 : ∀ w ∈ L.filter (fun w => !goodWord w), w ∈ B) (h3 : ∀ w ∈ B, w.before args s = true) : ∀ w ∈ L, w.before args s = true := by
  intro w hw
  by_cases g : goodWord w = true
  · exact h1 w (List.mem_filter.mpr ⟨hw, g⟩)
  · refine h3 w (h2 w (List.mem_filter.mpr ⟨hw, ?_⟩))
    show (!goodWord w) = true
    cases hgw : goodWord w
    · rfl
    · exact absurd hgw g
theorem vx_c {args : Array Value} {s : State} {w : Cond} {B : List Cond} (h : w.before args s = true) (t : ∀ w ∈ B, w.before args s = true) : ∀ w' ∈ w :: B, w'.before args s = true := fun w' h' => (List.mem_cons.mp h').elim (fun e => by rw [e]; exact h) (t w')
theorem vx_n {args : Array Value} {s : State} : ∀ w ∈ ([] : List Cond), w.before args s = true := fun _ h => nomatch h
theorem vx_own {args : Array Value} {s : State} {L : List Cond} (h1 : ∀ w ∈ L.filter vx_no, w.before args s = true)
    (hU : (Cond.isRef (.static Bundle.tN "UNASSIGNED_STACK" Bundle.steD)).before args s = true) (hN : (Cond.isRef (.static Bundle.tN "SUPPRESSED_SENTINEL" Bundle.listD)).before args s = true)
    (lU : (Cond.laysStatic Bundle.tN "UNASSIGNED_STACK" Bundle.steD).before args s = true) (lN : (Cond.laysStatic Bundle.tN "SUPPRESSED_SENTINEL" Bundle.listD).before args s = true) : ∀ w ∈ L, w.before args s = true := by
  intro w hw
  by_cases e1 : w = .isRef (.static Bundle.tN "UNASSIGNED_STACK" Bundle.steD)
  · rw [e1]; exact hU
  · by_cases e2 : w = .isRef (.static Bundle.tN "SUPPRESSED_SENTINEL" Bundle.listD)
    · rw [e2]; exact hN
    · by_cases e3 : w = .laysStatic Bundle.tN "UNASSIGNED_STACK" Bundle.steD
      · rw [e3]; exact lU
      · by_cases e4 : w = .laysStatic Bundle.tN "SUPPRESSED_SENTINEL" Bundle.listD
        · rw [e4]; exact lN
        · exact h1 w (List.mem_filter.mpr ⟨hw, by unfold vx_no; rw [decide_eq_true e1, decide_eq_true e2, decide_eq_true e3, decide_eq_true e4]; rfl⟩)
/-- where a static field lies, its class's statics cell in H -/
def vx_L (C n d : String) (A : Nat → Prop) (U : State) (H : Heap) : Prop := ∃ (c : ClassId) (k : Class) (i : Nat) (f : Field) (a : Nat) (cell : Cell), U.vm.findClass C = some c ∧ U.fieldFound? C n d = some (c, k, i, f) ∧ f.isStatic = true ∧ k.statics = some a ∧ H[a]? = some cell ∧ cell.vm.isStatics = true ∧ cell.cls = c ∧ f.slot < cell.slots.size ∧ k.staticTypes[f.slot]? = some f.type ∧ ¬ A a
theorem vx_L.moved {C n d : String} {A : Nat → Prop} {u U : State} {H : Heap} (hvm : u.vm.Alike U.vm) (h : vx_L C n d A u H) : vx_L C n d A U H := by
  obtain ⟨c, k, i, f, a, cell, h1, h2, h3, h4, h5, h6, h7, h8, h9, h10⟩ := h
  obtain ⟨k', hi', he⟩ := State.fieldFound?_setVm hvm h2
  exact ⟨c, k', i, f, a, cell, by rw [hvm.findClass]; exact h1, hi', h3, by rw [he]; exact h4, h5, h6, h7, h8, by rw [he]; exact h9, h10⟩
theorem vx_L.kept {C n d : String} {A : Nat → Prop} {U : State} {H H1 : Heap} (h : vx_L C n d A U H) (hq : ∀ a : Nat, a < H.size → ¬ A a → H1[a]? = H[a]?) : vx_L C n d A U H1 := by
  obtain ⟨c, k, i, f, a, cell, h1, h2, h3, h4, h5, h6, h7, h8, h9, h10⟩ := h
  exact ⟨c, k, i, f, a, cell, h1, h2, h3, h4, by rw [hq a (Array.getElem?_eq_some_iff.mp h5).1 h10]; exact h5, h6, h7, h8, h9, h10⟩
theorem vx_L.narrow {C n d : String} {A B : Nat → Prop} {U : State} {H : Heap} (h : vx_L C n d A U H) (hAB : ∀ q, B q → A q) : vx_L C n d B U H := by
  obtain ⟨c, k, i, f, a, cell, h1, h2, h3, h4, h5, h6, h7, h8, h9, h10⟩ := h
  exact ⟨c, k, i, f, a, cell, h1, h2, h3, h4, h5, h6, h7, h8, h9, fun z => h10 (hAB _ z)⟩
theorem vx_L.word {C n d : String} {A : Nat → Prop} {s : State} {args : Array Value} (h : vx_L C n d A s s.heap) : (Cond.laysStatic C n d).before args s = true := by
  obtain ⟨c, k, i, f, a, cell, h1, h2, h3, h4, h5, h6, h7, h8, h9, -⟩ := h
  show (Cond.laysStatic C n d).holds args s none s [] = true
  exact Cond.laysStatic_of h1 h2 h3 h4 h5 h6 h7 h8 h9
/-- .. and what it holds: null or some reference -/
def vx_Zq (C n d : String) (A : Nat → Prop) (U : State) (H : Heap) : Prop := va_Zq C n d A U H ∧ vx_L C n d A U H
theorem vx_Zq.moved {C n d : String} {A : Nat → Prop} {u U : State} {H : Heap} (hvm : u.vm.Alike U.vm) (h : vx_Zq C n d A u H) : vx_Zq C n d A U H := ⟨va_Zq.moved hvm h.1, vx_L.moved hvm h.2⟩
theorem vx_Zq.kept {C n d : String} {A : Nat → Prop} {U : State} {H H1 : Heap} (h : vx_Zq C n d A U H) (hq : ∀ a : Nat, a < H.size → ¬ A a → H1[a]? = H[a]?) : vx_Zq C n d A U H1 := ⟨va_Zq.kept h.1 hq, vx_L.kept h.2 hq⟩
theorem vx_Zq.narrow {C n d : String} {A B : Nat → Prop} {U : State} {H : Heap} (h : vx_Zq C n d A U H) (hAB : ∀ q, B q → A q) : vx_Zq C n d B U H := ⟨va_Zq.narrow h.1 hAB, vx_L.narrow h.2 hAB⟩
theorem vx_Zqof {args : Array Value} {s : State} {C n d : String} {A : Nat → Prop} (hl : (Cond.laysStatic C n d).before args s = true) (hini : (Cond.initialized C).before args s = true) (h : (Cond.isRef (.static C n d)).before args s = true) (hA : ∀ a : Nat, a < s.heap.size → ¬ A a) : vx_Zq C n d A s s.heap := by
  refine ⟨va_Zqof hl hini h hA, ?_⟩
  obtain ⟨c, k, i, f, a, cell, h1, h2, h3, h4, h5, h6, h7, h8, h9⟩ := Cond.laysStatic_spec hl
  exact ⟨c, k, i, f, a, cell, h1, h2, h3, h4, h5, h6, h7, h8, h9, hA a (Array.getElem?_eq_some_iff.mp h5).1⟩
theorem vx_isRef {C n d : String} {v : Value} {A : Nat → Prop} {s : State} {args : Array Value} (h : va_Z C n d v A s s.heap) (hv : v.isRef = true) : (Cond.isRef (.static C n d)).before args s = true := by
  obtain ⟨cf, kf, fi, f, a, cell, h1, h2, h3, h4, h5, h6, h7, -⟩ := h
  have he : (Term.static C n d).eval args s none [] s = some v := by
    simp [Term.eval, State.fieldNamed?, h1, h2, h4, h5, h6, h7]
  simp only [Cond.before, Cond.holds, Cond.value, he]
  cases v <;> simp_all [Value.isRef]
theorem vx_isRefq {C n d : String} {A : Nat → Prop} {s : State} {args : Array Value} (h : va_Zq C n d A s s.heap) : (Cond.isRef (.static C n d)).before args s = true := by
  rcases h with h | ⟨t, h⟩
  · exact vx_isRef h rfl
  · exact vx_isRef h rfl
/-- the same frame, seen from here: as if the method were called anew in this heap -/
theorem vx_rebase {T : State} (X : Stand p l e R s m args below meth c T locs cells slots) {R' : Room} (hf : R'.frames ≤ R.frames) (hl : R'.locals ≤ R.locals) (hc : cells + R'.cells ≤ R.cells) (hs : slots + R'.slots ≤ R.slots) :
    Stand p l e R' ((T.setVm s.vm).setFrames (.invoking m args :: below)) m args below meth c T [] 0 0 := by
  have htop : (T.setVm s.vm).topJava?.isSome := X.here.top
  have hF : ((T.setVm s.vm).setFrames (.invoking m args :: below)).frames = .invoking m args :: below := State.frames_setFrames _ (State.cur_lt_of_top htop)
  obtain ⟨g₀, hg0⟩ := Option.isSome_iff_exists.mp htop
  obtain ⟨r, hr⟩ := State.topJava?_eq_some.mp hg0
  have hl9 : e.platform.stackLimits (T.setVm s.vm).me = e.platform.stackLimits s.me := X.limits
  have hb9 : (T.setVm s.vm).me.stackBytes = s.me.stackBytes := X.bytes
  refine ⟨X.admits, X.cas, X.clock, hF, ?_, X.hears, X.method, X.code, X.here, X.tail, X.warmed, ?_, ?_, ?_⟩
  · have h := X.room
    have hU : ((T.setVm s.vm).setFrames (.invoking m args :: below)).localsInUse = s.localsInUse := by
      rw [State.localsInUse_invoking hF (meth := meth) (c := c) X.method X.code, State.localsInUse_invoking X.frames X.method X.code]
    simp only [State.hasRoom, Bool.and_eq_true, decide_eq_true_eq] at h ⊢
    obtain ⟨⟨⟨⟨h1, h2, h3, h4, h5, h6⟩, h7⟩, h8⟩, h9⟩ := h
    rw [X.frames, List.length_cons] at h2 h3
    have q1 := X.heapSize
    have q2 := X.used
    simp only [hF, hU, List.length_cons, State.stackLimits_setFrames, State.stackBytes_setFrames, hl9, hb9]
    refine ⟨⟨⟨⟨by omega, by omega, by omega, by omega, by omega, h6⟩, ?_⟩, ?_⟩, X.book⟩
    · show T.heap.size + R'.cells ≤ e.platform.maxCells
      omega
    · show T.slotsUsed + R'.slots ≤ e.platform.maxSlots
      omega
  · rw [State.stackLimits_setFrames]; rfl
  · rw [State.stackBytes_setFrames]; rfl
  · refine ⟨?_, Nat.le_refl _, Nat.le_refl _, ?_, ?_, fun a c9 h9 => ⟨c9, h9, rfl, rfl, fun _ _ => rfl⟩⟩
    · obtain ⟨t, ht, -⟩ := State.frames_cons hr
      show T.setVm s.vm = { ((T.setVm s.vm).setFrames (.invoking m args :: below)).setFrames (T.setVm s.vm).frames with heap := T.heap, slotsUsed := T.slotsUsed }
      rw [State.setFrames_setFrames, State.setFrames_self ht]
      rfl
    · show T.slotsUsed = T.slotsUsed + ((T.heap.toList.drop T.heap.size).map (·.slots.size)).sum
      rw [List.drop_eq_nil_of_le (Nat.le_of_eq Array.length_toList)]
      rfl
    · show ((T.heap.toList.drop T.heap.size).map (·.slots.size)).sum ≤ 0
      rw [List.drop_eq_nil_of_le (Nat.le_of_eq Array.length_toList)]
      exact Nat.le_refl _
/-- 'throw new E()': new; dup; invokespecial; athrow -/
theorem vx_throw0 {cc : ByteArray} {pc : Nat} (hexec : p.tables.exec = Jvm.exec) (hb : c.code = cc) (hl : l.stackTraces = false) {own cls : String} {names : List String} {ik ic mc ms : Nat} {A : Nat → Prop}
    (hown : s.vm.findClass own = some m.cls) (hcls : Bundle.fit cls = true) (hnames : ∀ n ∈ names, Bundle.fit n = true)
    (hk : (Cond.classLink own ik cls).before args s = true) (hini : (Cond.initialized cls).before args s = true) (hat : ∀ w ∈ vx_at0 own ic cls names, w.before args s = true)
    (hgood : ∀ w ∈ Cond.classLink own ik cls :: Cond.initialized cls :: vx_at0 own ic cls names, vx_ot w = true)
    (hU : vx_Zq Bundle.tN "UNASSIGNED_STACK" Bundle.steD A s s.heap) (hN : vx_Zq Bundle.tN "SUPPRESSED_SENTINEL" Bundle.listD A s s.heap) (hS : va_S A s.heap H locs) (hsize : ls.size = c.maxLocals)
    (d0 : decode cc pc = .ok (.new ik, 3)) (d3 : decode cc (pc + 3) = .ok (.dup, 1)) (d4 : decode cc (pc + 4) = .ok (.invokespecial ic, 3)) (d7 : decode cc (pc + 7) = .ok (.athrow, 1))
    (hout : ∀ x ∈ c.exceptionTable.toList, covers x (pc + 7) = false)
    (hRframes : names.length + 3 < R.frames) (hRlocals : (rest.map fun v => v.category).sum + (13 * (names.length + 1) + 42) ≤ R.locals) (hRcells : cells + 1 ≤ R.cells) (hRslots : slots + 6 ≤ R.slots) (hlocks : meth.locks = false)
    (hx : ∀ t : State, s.vm.Alike t.vm → H.size ≤ t.heap.size → (∀ q : Nat, q < H.size → t.heap[q]? = H[q]?) → XC cls s t)
    (hf : ∀ z ∈ locs, free z.base) (hc : cells + 1 ≤ mc) (hs : slots + 6 ≤ ms) :
    W p l e R s m args below meth c H locs cells slots (vx_MQ below Qc XC args s mc ms free) (F0 m pc ls rest) := by
  intro T hT X
  have htr : e.platform.stackTraces = false := (show e.platform.stackTraces = l.stackTraces by rw [X.admits.platform]).trans hl
  have Y := vx_rebase X (R' := { frames := R.frames, locals := R.locals, cells := 1, slots := 6 }) (Nat.le_refl _) (Nat.le_refl _) hRcells hRslots
  obtain ⟨s', hA⟩ : ∃ z, z = (T.setVm s.vm).setFrames (.invoking m args :: below) := ⟨_, rfl⟩
  rw [← hA] at Y
  have hvm : s'.vm = s.vm := by rw [hA]; rfl
  have hhp : s'.heap = H := by rw [hA]; exact hT
  have hW0 : s.WarmedH s'.vm := by rw [hvm]; exact State.WarmedH.refl s
  have hat' : ∀ w ∈ vx_at0 own ic cls names, w.before args s' = true := fun w hw => vx_ot_at hW0 hvm.symm (hgood w (List.mem_cons_of_mem _ (List.mem_cons_of_mem _ hw))) (hat w hw)
  have hk' : (Cond.classLink own ik cls).before args s' = true := vx_ot_at hW0 hvm.symm (hgood _ List.mem_cons_self) hk
  have hini' : (Cond.initialized cls).before args s' = true := vx_ot_at hW0 hvm.symm (hgood _ (List.mem_cons_of_mem _ List.mem_cons_self)) hini
  have hU' : vx_Zq Bundle.tN "UNASSIGNED_STACK" Bundle.steD A s' s'.heap := by rw [hhp]; exact vx_Zq.moved hW0.alike (hU.kept hS.2.1)
  have hN' : vx_Zq Bundle.tN "SUPPRESSED_SENTINEL" Bundle.listD A s' s'.heap := by rw [hhp]; exact vx_Zq.moved hW0.alike (hN.kept hS.2.1)
  have h : ∀ w ∈ Bundle.ownAtoms0 own ic cls names, w.before args s' = true := vx_own hat' (vx_isRefq hU'.1) (vx_isRefq hN'.1) hU'.2.word hN'.2.word
  have hown' : s'.vm.findClass own = some m.cls := by rw [hvm]; exact hown
  have hins : (Cond.instantiable cls 6).before args s' = true := h _ (by simp [Bundle.ownAtoms0])
  obtain ⟨vm₁, cX, kX, hfX, hkX, -, -, X₁, st1⟩ := Y.newCold hexec (own := own) (C := cls) (index := ik) (n := 6) hown' hk' hins hini'
    (g := F0 m pc ls rest) rfl (by rw [hb]; exact d0) (Nat.le_refl _) (Nat.le_refl _)
  generalize hT1 : (T.setVm vm₁).pushCell { cls := cX, slots := kX.instanceTypes.map defaultValue, vm := .none } = T1 at X₁ st1
  have hcat : (Value.ref T.heap.size).category = 1 := rfl
  have hcellA : T1.heap[T.heap.size]? = some (freshCell cX kX) := by rw [← hT1]; exact State.heap_pushCell_size _ _
  have d3' : decode c.code (pc + 3) = .ok (.dup, 1) := by rw [hb]; exact d3
  obtain ⟨U, hsteps, hrun, hend, hW, hsame, ce, hce, hO⟩ := X₁.ctorThrow0 hexec htr (own := own) (cls := cls) (names := names) (ic := ic) hown' hcls hnames h (fun x hx => nomatch hx) hfX hkX hcellA (by rw [hhp, hT]; exact Nat.le_refl _)
    (g := { method := m, pc := pc + 4, locals := ls, stack := .ref T.heap.size :: .ref T.heap.size :: rest, locked := none }) rfl hsize rfl rfl (rest := rest) rfl
    (by rw [hb]; exact d4) (by rw [hb]; exact d7) hout hRframes (by simp only [List.map_cons, List.sum_cons, hcat]; omega) hlocks
  obtain ⟨f1, f2⟩ := vx_frame hsame
  rw [hhp] at f1 f2
  have hWs : s.WarmedH U.vm := State.WarmedH.trans hW0 hW
  have hcl : s.vm.findClass cls = some ce.cls := by
    have h9 := hO.cls
    rw [hvm] at h9
    exact h9
  have hall : s.sameButNew ({ U with vm := s.vm } : State) locs mc ms := by
    subst hA
    obtain ⟨e1, e2⟩ := hsame
    rw [State.setFrames_setFrames] at e1
    have h2 : (T.setVm s.vm).sameButNew ({ U with vm := s.vm } : State) [] (0 + 1) (0 + 6) := ⟨e1, e2⟩
    have h3 := X.same.trans h2
    rw [List.append_nil] at h3
    exact h3.mono hc hs
  refine ⟨U, ?_, .threw T.heap.size, hrun, hend, Or.inr ⟨T.heap.size, rfl, cls, ce, locs, hx U hWs.alike f1 (fun q hq => f2 q hq (fun z hz => nomatch hz)), hce, hO.vm, hcl, hWs, hall, hf⟩⟩
  refine st1 _ ?_
  show Steps p.tables e below (T1.setTop { method := m, pc := pc + 3, locals := ls, stack := .ref T.heap.size :: rest, locked := none }) _
  jvm_step X₁.here [X₁.here.top, hexec, d3', Value.category]
  exact hsteps
/-- 'throw new E("text")': new; dup; ldc; invokespecial; athrow -/
theorem vx_throwS {cc : ByteArray} {pc : Nat} (hexec : p.tables.exec = Jvm.exec) (hb : c.code = cc) (hl : l.stackTraces = false) {own cls text : String} {names : List String} {ik is ic mc ms sa : Nat} {A : Nat → Prop}
    (hown : s.vm.findClass own = some m.cls) (hcls : Bundle.fit cls = true) (hnames : ∀ n ∈ names, Bundle.fit n = true)
    (hk : (Cond.classLink own ik cls).before args s = true) (hini : (Cond.initialized cls).before args s = true) (hstr : vk_R own is text sa s) (hat : ∀ w ∈ vx_atS own ic cls names, w.before args s = true)
    (hgood : ∀ w ∈ Cond.classLink own ik cls :: Cond.initialized cls :: vx_atS own ic cls names, vx_ot w = true)
    (hU : vx_Zq Bundle.tN "UNASSIGNED_STACK" Bundle.steD A s s.heap) (hN : vx_Zq Bundle.tN "SUPPRESSED_SENTINEL" Bundle.listD A s s.heap) (hS : va_S A s.heap H locs) (hsize : ls.size = c.maxLocals)
    (d0 : decode cc pc = .ok (.new ik, 3)) (d3 : decode cc (pc + 3) = .ok (.dup, 1)) (d4 : decode cc (pc + 4) = .ok (.ldc is, 2)) (d6 : decode cc (pc + 6) = .ok (.invokespecial ic, 3)) (d9 : decode cc (pc + 9) = .ok (.athrow, 1))
    (hout : ∀ x ∈ c.exceptionTable.toList, covers x (pc + 9) = false)
    (hRframes : names.length + 3 < R.frames) (hRlocals : (rest.map fun v => v.category).sum + (13 * (names.length + 1) + 43) ≤ R.locals) (hRcells : cells + 1 ≤ R.cells) (hRslots : slots + 6 ≤ R.slots) (hlocks : meth.locks = false)
    (hx : ∀ t : State, s.vm.Alike t.vm → H.size ≤ t.heap.size → (∀ q : Nat, q < H.size → t.heap[q]? = H[q]?) → XC cls s t)
    (hf : ∀ z ∈ locs, free z.base) (hc : cells + 1 ≤ mc) (hs : slots + 6 ≤ ms) :
    W p l e R s m args below meth c H locs cells slots (vx_MQ below Qc XC args s mc ms free) (F0 m pc ls rest) := by
  intro T hT X
  have htr : e.platform.stackTraces = false := (show e.platform.stackTraces = l.stackTraces by rw [X.admits.platform]).trans hl
  have Y := vx_rebase X (R' := { frames := R.frames, locals := R.locals, cells := 1, slots := 6 }) (Nat.le_refl _) (Nat.le_refl _) hRcells hRslots
  obtain ⟨s', hA⟩ : ∃ z, z = (T.setVm s.vm).setFrames (.invoking m args :: below) := ⟨_, rfl⟩
  rw [← hA] at Y
  have hvm : s'.vm = s.vm := by rw [hA]; rfl
  have hhp : s'.heap = H := by rw [hA]; exact hT
  have hW0 : s.WarmedH s'.vm := by rw [hvm]; exact State.WarmedH.refl s
  have hat' : ∀ w ∈ vx_atS own ic cls names, w.before args s' = true := fun w hw => vx_ot_at hW0 hvm.symm (hgood w (List.mem_cons_of_mem _ (List.mem_cons_of_mem _ hw))) (hat w hw)
  have hk' : (Cond.classLink own ik cls).before args s' = true := vx_ot_at hW0 hvm.symm (hgood _ List.mem_cons_self) hk
  have hini' : (Cond.initialized cls).before args s' = true := vx_ot_at hW0 hvm.symm (hgood _ (List.mem_cons_of_mem _ List.mem_cons_self)) hini
  have hU' : vx_Zq Bundle.tN "UNASSIGNED_STACK" Bundle.steD A s' s'.heap := by rw [hhp]; exact vx_Zq.moved hW0.alike (hU.kept hS.2.1)
  have hN' : vx_Zq Bundle.tN "SUPPRESSED_SENTINEL" Bundle.listD A s' s'.heap := by rw [hhp]; exact vx_Zq.moved hW0.alike (hN.kept hS.2.1)
  have h : ∀ w ∈ Bundle.ownAtoms own ic cls names, w.before args s' = true := vx_own hat' (vx_isRefq hU'.1) (vx_isRefq hN'.1) hU'.2.word hN'.2.word
  have hown' : s'.vm.findClass own = some m.cls := by rw [hvm]; exact hown
  have hins : (Cond.instantiable cls 6).before args s' = true := h _ (by simp [Bundle.ownAtoms])
  obtain ⟨vm₁, cX, kX, hfX, hkX, -, -, X₁, st1⟩ := Y.newCold hexec (own := own) (C := cls) (index := ik) (n := 6) hown' hk' hins hini'
    (g := F0 m pc ls rest) rfl (by rw [hb]; exact d0) (Nat.le_refl _) (Nat.le_refl _)
  generalize hT1 : (T.setVm vm₁).pushCell { cls := cX, slots := kX.instanceTypes.map defaultValue, vm := .none } = T1 at X₁ st1
  have hcat : (Value.ref T.heap.size).category = 1 := rfl
  have hcellA : T1.heap[T.heap.size]? = some (freshCell cX kX) := by rw [← hT1]; exact State.heap_pushCell_size _ _
  have d3' : decode c.code (pc + 3) = .ok (.dup, 1) := by rw [hb]; exact d3
  have d4' : decode c.code (pc + 4) = .ok (.ldc is, 2) := by rw [hb]; exact d4
  have hstr' : vk_R own is text sa s' := vk_R.warm hW0 hstr
  obtain ⟨U, hsteps, hrun, hend, hW, hsame, ce, hce, hO⟩ := X₁.ctorThrowS hexec htr (own := own) (cls := cls) (names := names) (ic := ic) hown' hcls hnames h (fun x hx => nomatch hx) hfX hkX hcellA (by rw [hhp, hT]; exact Nat.le_refl _) (msg := .ref sa) rfl
    (g := { method := m, pc := pc + 6, locals := ls, stack := .ref sa :: .ref T.heap.size :: .ref T.heap.size :: rest, locked := none }) rfl hsize rfl rfl (rest := rest) rfl
    (by rw [hb]; exact d6) (by rw [hb]; exact d9) hout hRframes (by simp only [List.map_cons, List.sum_cons, hcat]; omega) hlocks
  obtain ⟨f1, f2⟩ := vx_frame hsame
  rw [hhp] at f1 f2
  have hWs : s.WarmedH U.vm := State.WarmedH.trans hW0 hW
  have hcl : s.vm.findClass cls = some ce.cls := by
    have h9 := hO.cls
    rw [hvm] at h9
    exact h9
  have hall : s.sameButNew ({ U with vm := s.vm } : State) locs mc ms := by
    subst hA
    obtain ⟨e1, e2⟩ := hsame
    rw [State.setFrames_setFrames] at e1
    have h2 : (T.setVm s.vm).sameButNew ({ U with vm := s.vm } : State) [] (0 + 1) (0 + 6) := ⟨e1, e2⟩
    have h3 := X.same.trans h2
    rw [List.append_nil] at h3
    exact h3.mono hc hs
  refine ⟨U, ?_, .threw T.heap.size, hrun, hend, Or.inr ⟨T.heap.size, rfl, cls, ce, locs, hx U hWs.alike f1 (fun q hq => f2 q hq (fun z hz => nomatch hz)), hce, hO.vm, hcl, hWs, hall, hf⟩⟩
  refine st1 _ ?_
  show Steps p.tables e below (T1.setTop { method := m, pc := pc + 3, locals := ls, stack := .ref T.heap.size :: rest, locked := none }) _
  jvm_step X₁.here [X₁.here.top, hexec, d3', Value.category]
  exact X₁.ldcString hexec (own := own) (text := text) (index := is) (a := sa) hown' hstr'.1 hstr'.2
    (g := { method := m, pc := pc + 4, locals := ls, stack := .ref T.heap.size :: .ref T.heap.size :: rest, locked := none }) rfl d4' _ hsteps
/-- 'throw new E("text")', the text by a wide index -/
theorem vx_throwSW {cc : ByteArray} {pc : Nat} (hexec : p.tables.exec = Jvm.exec) (hb : c.code = cc) (hl : l.stackTraces = false) {own cls text : String} {names : List String} {ik is ic mc ms sa : Nat} {A : Nat → Prop}
    (hown : s.vm.findClass own = some m.cls) (hcls : Bundle.fit cls = true) (hnames : ∀ n ∈ names, Bundle.fit n = true)
    (hk : (Cond.classLink own ik cls).before args s = true) (hini : (Cond.initialized cls).before args s = true) (hstr : vk_R own is text sa s) (hat : ∀ w ∈ vx_atS own ic cls names, w.before args s = true)
    (hgood : ∀ w ∈ Cond.classLink own ik cls :: Cond.initialized cls :: vx_atS own ic cls names, vx_ot w = true)
    (hU : vx_Zq Bundle.tN "UNASSIGNED_STACK" Bundle.steD A s s.heap) (hN : vx_Zq Bundle.tN "SUPPRESSED_SENTINEL" Bundle.listD A s s.heap) (hS : va_S A s.heap H locs) (hsize : ls.size = c.maxLocals)
    (d0 : decode cc pc = .ok (.new ik, 3)) (d3 : decode cc (pc + 3) = .ok (.dup, 1)) (d4 : decode cc (pc + 4) = .ok (.ldc_w is, 3)) (d7 : decode cc (pc + 7) = .ok (.invokespecial ic, 3)) (d10 : decode cc (pc + 10) = .ok (.athrow, 1))
    (hout : ∀ x ∈ c.exceptionTable.toList, covers x (pc + 10) = false)
    (hRframes : names.length + 3 < R.frames) (hRlocals : (rest.map fun v => v.category).sum + (13 * (names.length + 1) + 43) ≤ R.locals) (hRcells : cells + 1 ≤ R.cells) (hRslots : slots + 6 ≤ R.slots) (hlocks : meth.locks = false)
    (hx : ∀ t : State, s.vm.Alike t.vm → H.size ≤ t.heap.size → (∀ q : Nat, q < H.size → t.heap[q]? = H[q]?) → XC cls s t)
    (hf : ∀ z ∈ locs, free z.base) (hc : cells + 1 ≤ mc) (hs : slots + 6 ≤ ms) :
    W p l e R s m args below meth c H locs cells slots (vx_MQ below Qc XC args s mc ms free) (F0 m pc ls rest) := by
  intro T hT X
  have htr : e.platform.stackTraces = false := (show e.platform.stackTraces = l.stackTraces by rw [X.admits.platform]).trans hl
  have Y := vx_rebase X (R' := { frames := R.frames, locals := R.locals, cells := 1, slots := 6 }) (Nat.le_refl _) (Nat.le_refl _) hRcells hRslots
  obtain ⟨s', hA⟩ : ∃ z, z = (T.setVm s.vm).setFrames (.invoking m args :: below) := ⟨_, rfl⟩
  rw [← hA] at Y
  have hvm : s'.vm = s.vm := by rw [hA]; rfl
  have hhp : s'.heap = H := by rw [hA]; exact hT
  have hW0 : s.WarmedH s'.vm := by rw [hvm]; exact State.WarmedH.refl s
  have hat' : ∀ w ∈ vx_atS own ic cls names, w.before args s' = true := fun w hw => vx_ot_at hW0 hvm.symm (hgood w (List.mem_cons_of_mem _ (List.mem_cons_of_mem _ hw))) (hat w hw)
  have hk' : (Cond.classLink own ik cls).before args s' = true := vx_ot_at hW0 hvm.symm (hgood _ List.mem_cons_self) hk
  have hini' : (Cond.initialized cls).before args s' = true := vx_ot_at hW0 hvm.symm (hgood _ (List.mem_cons_of_mem _ List.mem_cons_self)) hini
  have hU' : vx_Zq Bundle.tN "UNASSIGNED_STACK" Bundle.steD A s' s'.heap := by rw [hhp]; exact vx_Zq.moved hW0.alike (hU.kept hS.2.1)
  have hN' : vx_Zq Bundle.tN "SUPPRESSED_SENTINEL" Bundle.listD A s' s'.heap := by rw [hhp]; exact vx_Zq.moved hW0.alike (hN.kept hS.2.1)
  have h : ∀ w ∈ Bundle.ownAtoms own ic cls names, w.before args s' = true := vx_own hat' (vx_isRefq hU'.1) (vx_isRefq hN'.1) hU'.2.word hN'.2.word
  have hown' : s'.vm.findClass own = some m.cls := by rw [hvm]; exact hown
  have hins : (Cond.instantiable cls 6).before args s' = true := h _ (by simp [Bundle.ownAtoms])
  obtain ⟨vm₁, cX, kX, hfX, hkX, -, -, X₁, st1⟩ := Y.newCold hexec (own := own) (C := cls) (index := ik) (n := 6) hown' hk' hins hini'
    (g := F0 m pc ls rest) rfl (by rw [hb]; exact d0) (Nat.le_refl _) (Nat.le_refl _)
  generalize hT1 : (T.setVm vm₁).pushCell { cls := cX, slots := kX.instanceTypes.map defaultValue, vm := .none } = T1 at X₁ st1
  have hcat : (Value.ref T.heap.size).category = 1 := rfl
  have hcellA : T1.heap[T.heap.size]? = some (freshCell cX kX) := by rw [← hT1]; exact State.heap_pushCell_size _ _
  have d3' : decode c.code (pc + 3) = .ok (.dup, 1) := by rw [hb]; exact d3
  have d4' : decode c.code (pc + 4) = .ok (.ldc_w is, 3) := by rw [hb]; exact d4
  have hstr' : vk_R own is text sa s' := vk_R.warm hW0 hstr
  obtain ⟨U, hsteps, hrun, hend, hW, hsame, ce, hce, hO⟩ := X₁.ctorThrowS hexec htr (own := own) (cls := cls) (names := names) (ic := ic) hown' hcls hnames h (fun x hx => nomatch hx) hfX hkX hcellA (by rw [hhp, hT]; exact Nat.le_refl _) (msg := .ref sa) rfl
    (g := { method := m, pc := pc + 7, locals := ls, stack := .ref sa :: .ref T.heap.size :: .ref T.heap.size :: rest, locked := none }) rfl hsize rfl rfl (rest := rest) rfl
    (by rw [hb]; exact d7) (by rw [hb]; exact d10) hout hRframes (by simp only [List.map_cons, List.sum_cons, hcat]; omega) hlocks
  obtain ⟨f1, f2⟩ := vx_frame hsame
  rw [hhp] at f1 f2
  have hWs : s.WarmedH U.vm := State.WarmedH.trans hW0 hW
  have hcl : s.vm.findClass cls = some ce.cls := by
    have h9 := hO.cls
    rw [hvm] at h9
    exact h9
  have hall : s.sameButNew ({ U with vm := s.vm } : State) locs mc ms := by
    subst hA
    obtain ⟨e1, e2⟩ := hsame
    rw [State.setFrames_setFrames] at e1
    have h2 : (T.setVm s.vm).sameButNew ({ U with vm := s.vm } : State) [] (0 + 1) (0 + 6) := ⟨e1, e2⟩
    have h3 := X.same.trans h2
    rw [List.append_nil] at h3
    exact h3.mono hc hs
  refine ⟨U, ?_, .threw T.heap.size, hrun, hend, Or.inr ⟨T.heap.size, rfl, cls, ce, locs, hx U hWs.alike f1 (fun q hq => f2 q hq (fun z hz => nomatch hz)), hce, hO.vm, hcl, hWs, hall, hf⟩⟩
  refine st1 _ ?_
  show Steps p.tables e below (T1.setTop { method := m, pc := pc + 3, locals := ls, stack := .ref T.heap.size :: rest, locked := none }) _
  jvm_step X₁.here [X₁.here.top, hexec, d3', Value.category]
  exact X₁.ldcStringW hexec (own := own) (text := text) (index := is) (a := sa) hown' hstr'.1 hstr'.2
    (g := { method := m, pc := pc + 4, locals := ls, stack := .ref T.heap.size :: .ref T.heap.size :: rest, locked := none }) rfl d4' _ hsteps
end Ends
section Bodies
variable {l : Launch}
theorem vx_ofW {y : MethodName} {ws ws' : List Cond} {rm : Room} {Pc : Array Value → State → Prop} {Qc : Array Value → State → Outcome → State → Prop} {XC : String → State → State → Prop} {mc ms : Nat} {free : Addr → Prop} {cc : ByteArray} {maxL : Nat} {ret : Option FieldType}
    (hy : plainName y.cls = true) (hw : ws = Cond.code y cc maxL ret :: ws')
    (body : ∀ p e s m args below meth c s₁, BodyLoose p l y (headSpec ws rm) cc maxL ret e s m args below meth c s₁ → c.maxLocals = maxL → (∀ x ∈ c.exceptionTable.toList, False) → Pc args s →
      W p l e (headSpec ws rm).room s m args below meth c s.heap [] 0 0 (vx_MQ below Qc XC args s mc ms free) (entryFrame m args maxL)) : vx_Met l y ws rm Pc Qc XC mc ms free := by
  refine MetFree.of_bodyS (code := cc) (maxLocals := maxL) (ret := ret) hy ?_ ?_
  · intro args s m h hn
    obtain ⟨meth, c, h1, h2, h3, h4, h5, h6, -, -⟩ := Cond.code_spec hn (atoms_spec (ws := ws) h _ (by rw [hw]; exact List.mem_cons_self))
    exact ⟨meth, c, h1, h2, h3, h4, h5, h6⟩
  · intro p e s m args below meth c s₁ B hml hP _
    have hh0 : s₁.heap = s.heap := by rw [B.state]; rfl
    have ht : ∀ x ∈ c.exceptionTable.toList, False := by
      obtain ⟨meth9, c9, h1, h2, -, -, -, -, h7, -⟩ := Cond.code_spec B.named (atoms_spec (ws := ws) B.pre _ (by rw [hw]; exact List.mem_cons_self))
      cases Option.some.inj (h1.symm.trans B.method)
      cases Option.some.inj (h2.symm.trans (Stand.of_body B).code)
      intro x hx
      rw [Array.isEmpty_iff.mp h7] at hx
      cases hx
    obtain ⟨t, a1, o, b1, b2, b3⟩ := body p e s m args below meth c s₁ B hml ht hP s₁ hh0 (Stand.of_body B)
    exact ⟨t, o, a1, b1, b2, b3⟩
/-- the table of a body with handlers -/
theorem vx_table {p : Program} {x y : MethodName} {S : Spec} {cc bytes : ByteArray} {maxL maxL' : Nat} {ret ret' : Option FieldType} {e : Env} {s s₁ : State} {m : MethodId} {args : Array Value} {below : List Frame} {meth : Method} {c : Code} {hh : List (Nat × Nat × Nat × Nat)}
    (B : BodyLoose p l y S cc maxL ret e s m args below meth c s₁) (h : (Cond.codeWith y bytes maxL' ret' hh).before args s = true) : c.exceptionTable.toList = tableOf hh := by
  obtain ⟨m9, meth9, c9, hn9, h1, h2, -, -, h6, -⟩ := Cond.codeWith_spec h
  cases Option.some.inj (hn9.symm.trans B.named)
  cases Option.some.inj (h1.symm.trans B.method)
  cases Option.some.inj (h2.symm.trans (Stand.of_body B).code)
  rw [← h6, table_eq]
end Bodies
end VXA
/-! ===== END ===== -/
/-! ===== BEGIN a static call of a method with an exception table ===== -/
section VXS
variable {p : Program} {l : Launch} {e : Env} {R : Room} {s : State} {m : MethodId} {args : Array Value} {below : List Frame} {meth : Method} {c : Code} {T : State} {H : Heap} {locs : List Loc} {cells slots : Nat}
abbrev vx_CSW (R : Room) (s : State) (args : Array Value) (own : String) (index : Nat) (y : MethodName) (bytes : ByteArray) (maxL : Nat) (ret : Option FieldType) (hh : List (Nat × Nat × Nat × Nat)) (ws : List Cond) (rm : Room) (mc ms n : Nat) : Prop :=
  (rm.cells = mc ∧ rm.slots = ms ∧ rm.frames + 1 ≤ R.frames ∧ 8 + (maxL + 11) + rm.locals ≤ R.locals ∧ (∀ w ∈ ws, ∀ (a' : Array Value) (U : State), s.WarmedH U.vm → w.before a' U = true) ∧ Cond.codeWith y bytes maxL ret hh ∈ ws) ∧
  (Cond.codeWith y bytes maxL ret hh).before args s = true ∧ (Cond.initialized y.cls).before args s = true ∧ (y.cls ≠ "java/lang/invoke/MethodHandle" ∧ y.cls ≠ "java/lang/invoke/VarHandle") ∧
  (∀ sig, parseMethodDescriptor y.desc = some sig → n = sig.parameters.length) ∧ (Cond.methodLink own index y).before args s = true ∧ (Cond.static y).before args s = true
theorem vx_cwSW {own : String} {index maxL mc ms : Nat} {y : MethodName} {bytes : ByteArray} {ret : Option FieldType} {hh : List (Nat × Nat × Nat × Nat)} {Ts ws ws' : List Cond} {rm : Room} (n : Nat) (ht : ∀ w ∈ Ts, w.before args s = true) (hT : GoodIn Ts (va_wsS own index y ws)) (hw : ws = Cond.codeWith y bytes maxL ret hh :: ws') (hrc : rm.cells = mc) (hrs : rm.slots = ms)
    (hd : y.cls ≠ "java/lang/invoke/MethodHandle" ∧ y.cls ≠ "java/lang/invoke/VarHandle" ∧ (parseMethodDescriptor y.desc).map (fun d => d.parameters.length) = some n) (hR : rm.frames + 1 ≤ R.frames ∧ 8 + (maxL + 11) + rm.locals ≤ R.locals) :
    vx_CSW R s args own index y bytes maxL ret hh ws rm mc ms n := by
  have ok : ∀ w ∈ va_wsS own index y ws, w.before args s = true := fun w h => ht w (hT w h).1
  have hG : GoodIn Ts ws := fun w h => hT w (by unfold va_wsS; exact List.mem_append_right _ h)
  have hc : Cond.codeWith y bytes maxL ret hh ∈ ws := by rw [hw]; exact List.mem_cons_self
  refine ⟨⟨hrc, hrs, hR.1, hR.2, pay_in ht hG, hc⟩, ht _ (hG _ hc).1, ok _ (by simp [va_wsS]), ⟨hd.1, hd.2.1⟩, fun sig h => ?_, ok _ (by simp [va_wsS]), ok _ (by simp [va_wsS])⟩
  have h2 := hd.2.2
  rw [h] at h2
  exact (Option.some.inj h2).symm
theorem vx_callSW (X : Stand p l e R s m args below meth c T locs cells slots) (hexec : p.tables.exec = Jvm.exec) {own : String} {index : Nat} {y : MethodName} {bytes : ByteArray} {maxL : Nat} {ret : Option FieldType} {hh : List (Nat × Nat × Nat × Nat)}
    (hown : s.vm.findClass own = some m.cls) (hlink : (Cond.methodLink own index y).before args s = true) (hstat : (Cond.static y).before args s = true) (hinit : (Cond.initialized y.cls).before args s = true)
    (hcode : (Cond.codeWith y bytes maxL ret hh).before args s = true) (hy : y.cls ≠ "java/lang/invoke/MethodHandle" ∧ y.cls ≠ "java/lang/invoke/VarHandle")
    {W9 : Nat} {Pre : Pt → Array Value → Prop} {Post : Pt → Array Value → Option Value → Pt → Prop} (hK : Back l R p e below s args y 3 W9 Pre Post)
    {g : JFrame} (hg : g.method = m) (hsize : g.locals.size = c.maxLocals) {argsL rest : List Value} (hlen : ∀ sig, parseMethodDescriptor y.desc = some sig → argsL.length = sig.parameters.length)
    (hstack : g.stack = argsL.reverse ++ rest) (hW : 2 * g.monitorRoom + (rest.map fun v => v.category).sum ≤ W9) (hdg : decode c.code g.pc = .ok (.invokestatic index, 3))
    (hpre : ∀ vm₁, s.WarmedH vm₁ → Pre ⟨T.setVm vm₁, locs, cells, slots⟩ argsL.toArray) :
    ∃ (v : Option Value) (vm₁ : Vm) (B : Pt), s.WarmedH vm₁ ∧ Stand p l e R s m args below meth c B.U B.locs B.cells B.slots ∧ Post ⟨T.setVm vm₁, locs, cells, slots⟩ argsL.toArray v B ∧
      ∀ target, Steps p.tables e below (B.U.setTop { g with pc := g.pc + 3, stack := v.toList ++ rest }) target → Steps p.tables e below (T.setTop g) target := by
  obtain ⟨mk, methM, cM, hnamed, hmethM, -, -, -, -, -, -, hsigM⟩ := Cond.codeWith_spec hcode
  have hstatic : methM.isStatic = true := Cond.static_spec hnamed hmethM hstat
  obtain ⟨kP, hkP, -⟩ := className_of_methodNamed hnamed
  have hinitP : kP.init = .initialized := Cond.initialized_spec (findClass_of_methodNamed hnamed) hkP hinit
  obtain ⟨vm₁, X₁, hstep₁⟩ := X.invokestatic hexec hown hlink hnamed hmethM hstatic hkP hinitP hy (g := g) hg (argsL := argsL) (rest := rest) (hlen _ hsigM) hstack hdg
  obtain ⟨v, B, X', hpost, hsteps⟩ := hK m meth c ⟨T.setVm vm₁, locs, cells, slots⟩ { g with stack := rest } (.invokestatic index) mk argsL.toArray X₁ hg hsize hdg hW (X₁.named hnamed) (hpre vm₁ X₁.warmed)
  exact ⟨v, vm₁, B, X₁.warmed, X', hpost, fun target h => hstep₁ _ fun acts => by rw [doInvoke_state]; exact hsteps.trans h⟩
theorem vx_runSW {y : MethodName} {bytes cc : ByteArray} {maxL nL mc ms n index : Nat} {ret : Option FieldType} {hh : List (Nat × Nat × Nat × Nat)} {ws : List Cond} {rm : Room} {Pc : Array Value → State → Prop} {Qc : Array Value → State → Outcome → State → Prop} {free : Addr → Prop} {Ts : List Cond} {own : String} {As rest : List Value} {g : JFrame}
    (S : CallFix p m c cc nL s args Ts own) (hM : Met l y ws rm Pc Qc mc ms free) (cw : vx_CSW R s args own index y bytes maxL ret hh ws rm mc ms n) (hp : PreS s H Pc As)
    (hg : g.method = m) (hn : As.length = n) (hsize : g.locals.size = nL) (hstack : g.stack = As.reverse ++ rest) (hW : 2 * g.monitorRoom + (rest.map fun v => v.category).sum ≤ 8) (hdg : decode cc g.pc = .ok (.invokestatic index, 3)) (hf : cells + mc ≤ R.cells ∧ slots + ms ≤ R.slots) :
    va_Run p l e R s m args below meth c H locs cells slots mc ms g rest (Qc As.toArray) (free) := by
  obtain ⟨⟨hrc, hrs, hfr, hlo, hws, hcw⟩, hcode, hini, hy, hlen, hl, hstt⟩ := cw
  have hK : Back l R p e below s args y 3 8 (PreOf R mc ms Pc) (PostOf Qc mc ms free) := va_backW (hh := hh) (bytes := bytes) (maxL := maxL) (ret := ret) hM hp.1 hrc hrs hfr hlo hws hcw (fun a' U hW => word_at hW (Or.inl (by first | rfl | simp [Cond.onTables, Cond.keeps, Cond.steady])) hini)
  obtain ⟨hx, hb, hml, ho, -⟩ := S
  intro T hT X
  obtain ⟨v, vm₁, ⟨U', l2, c2, s2⟩, hW₁, X', ⟨g', mk, t, L, e1, e2, hq, h1, hL, h2, h3⟩, st⟩ := vx_callSW X hx (hh := hh) (bytes := bytes) (maxL := maxL) (ret := ret) ho hl hstt hini hcode hy hK hg (hsize.trans hml.symm) (argsL := As) (rest := rest) (fun sig h => hn.trans (hlen sig h)) hstack hW (by rw [hb]; exact hdg)
    (fun vm₁ hW₁ => ⟨hf.1, hf.2, hp.2 (T.setVm vm₁) hT hW₁⟩)
  dsimp only [Pt.U, Pt.locs, Pt.cells, Pt.slots] at X' e1 e2 h1 h2 h3 st
  subst h1; subst h2; subst h3
  exact ⟨v, (T.setVm vm₁).calling g' mk As.toArray, t, U', L, hT, X', hL, e1, e2, hq, st⟩
/-- not caught here, past rows that name other classes: it goes on to the caller -/
theorem vx_outP {p : Program} {l : Launch} {e : Env} {R : Room} {s : State} {m : MethodId} {args : Array Value} {below : List Frame} {meth : Method} {c : Code} {H : Heap} {locs : List Loc} {cells slots : Nat} {free : Addr → Prop} {ls : Array Slot} {rest : List Value} {Qc : Array Value → State → Outcome → State → Prop} {XC : String → State → State → Prop}
    {pc : Nat} {own E : String} {ce : Cell} {q : Addr} {mc ms : Nat} (hown : s.vm.findClass own = some m.cls) (hlocks : meth.locks = false)
    (hpass : ∀ z ∈ c.exceptionTable.toList, covers z pc = false ∨ (z.catchType ≠ 0 ∧ ∃ nm : String, (Cond.classLink own z.catchType nm).before args s = true ∧ va_Nc E nm s)) (hcell : H[q]? = some ce) (hv : ce.vm = .none) (hcl : s.vm.findClass E = some ce.cls)
    (hx : ∀ t : State, t.heap = H → s.vm.Alike t.vm → XC E s t) (hf : ∀ z ∈ locs, free z.base) (hc : cells ≤ mc) (hs : slots ≤ ms) :
    vx_W p l e R s m args below meth c H locs cells slots (vx_MQ below Qc XC args s mc ms free) (F0 m pc ls rest) q := by
  intro T hT X
  have hpl : e.platform.magicAccessors = ({} : Platform).magicAccessors := by rw [X.admits.platform]
  obtain ⟨vm', hW', X', st⟩ := X.outThrough hlocks q (g := F0 m pc ls rest) rfl rfl rfl (cell := ce) (by rw [hT]; exact hcell) (by rw [hv]; rfl)
    (by obtain ⟨k9, h9, -⟩ := Vm.findClass_spec hcl; exact ⟨k9, h9⟩) (fun z hz => by
      rcases hpass z hz with h | ⟨hz0, nm, hl1, hn1⟩
      · exact Or.inl h
      · obtain ⟨c6, hc6, hcl6⟩ := Cond.classLink_spec hown hl1 e.platform hpl
        obtain ⟨a8, b8, h1, h2, h3⟩ := hn1
        cases Option.some.inj (h1.symm.trans hcl)
        cases Option.some.inj (h2.symm.trans hc6)
        exact Or.inr ⟨hz0, _, hcl6, h3⟩)
  obtain ⟨g₀, hfr⟩ := X'.frames_eq
  have hcell9 : ((T.setVm vm').setFrames (.throwing q :: below)).heap[q]? = some ce := by
    show T.heap[q]? = some ce
    rw [hT]; exact hcell
  have hend : Ended ((T.setVm vm').setFrames (.throwing q :: below)) below (.threw q) := State.frames_setFrames _ (State.cur_lt_of_frames hfr)
  refine ⟨(T.setVm vm').setFrames (.throwing q :: below), ?_, .threw q, X'.here.running, hend, Or.inr ⟨q, rfl, E, ce, locs, hx _ hT (X'.ends _).1.alike, hcell9, hv, hcl, (X'.ends _).1, (X'.ends _).2.mono hc hs, hf⟩⟩
  rw [X.pushThrowing_eq]
  exact st
/-- a thing of a world lies in the heap -/
theorem vx_lt {D : va_G} {cl : List vw_C} {ws : va_W} {H1 : Heap} (h : va_P D cl ws H1) {k : Nat} {q : Nat × va_E} (hk : ws[k]? = some q) : q.1 < H1.size := (h k q hk).lt
end VXS
/-! ===== END ===== -/
/-! ===== BEGIN methods with a table of their own: called by a name, returning or throwing ===== -/
section VXH
/-! vx_backW, vx_callVX, vx_callSX, vx_callVW, vx_runVW, vx_runVX, vx_runSX, vx_ofWH follow the same proofs as their sisters above (Free/Laws.lean, Shelf42/LK1.lean); vx_outP calls Shelf42/NT130.lean (outThrough). -/
section
variable {l : Launch} {R : Room} {p : Program} {e : Env} {below : List Frame} {s : State} {sargs : Array Value} {y : MethodName} {len W9 : Nat}
theorem vx_backW {ws : List Cond} {rm : Room} {Pc : Array Value → State → Prop} {Qc : Array Value → State → Outcome → State → Prop} {XC : String → State → State → Prop} {mc ms : Nat} {free : Addr → Prop} {bytes : ByteArray} {maxL : Nat} {ret : Option FieldType} {hh : List (Nat × Nat × Nat × Nat)}
    (hM : vx_Met l y ws rm Pc Qc XC mc ms free) (hblind : FrameBlind Pc) (hrc : rm.cells = mc) (hrs : rm.slots = ms)
    (hframes : rm.frames + 1 ≤ R.frames) (hlocals : W9 + (maxL + 11) + rm.locals ≤ R.locals)
    (hws : ∀ w ∈ ws, ∀ a' U, s.WarmedH U.vm → w.before a' U = true) (hcode : Cond.codeWith y bytes maxL ret hh ∈ ws) (hinit : ∀ a' U, s.WarmedH U.vm → (Cond.initialized y.cls).before a' U = true) :
    vx_Back l R p e below s sargs y len W9 (PreOf R mc ms Pc) (PostOf Qc mc ms free) (vx_Post XC mc ms free) := by
  intro m meth c A g ig mk a X hg hsize hdg hW hn hp
  have h1 : (headSpec ws rm).pre.before a A.U = true := atoms_intro fun w hw => hws w hw _ _ X.warmed
  have h2 : (Cond.codeWith y bytes maxL ret hh).before a A.U = true := hws _ hcode _ _ X.warmed
  have h3 : (Cond.initialized y.cls).before a A.U = true := hinit _ _ X.warmed
  have h4 : A.cells + (headSpec ws rm).room.cells ≤ R.cells := by rw [show (headSpec ws rm).room.cells = mc from hrc]; exact hp.1
  have h5 : A.slots + (headSpec ws rm).room.slots ≤ R.slots := by rw [show (headSpec ws rm).room.slots = ms from hrs]; exact hp.2.1
  have hPc : Pc a (A.U.calling g mk a) := hblind _ _ _ _ hp.2.2
  obtain ⟨U, Ls, c0, s0⟩ := A
  dsimp only [Pt.U, Pt.locs, Pt.cells, Pt.slots] at h1 h2 h3 h4 h5 X hn hPc ⊢
  obtain ⟨m9, methY, cY, hn9, hmY, hcY, -, hlY, -⟩ := Cond.codeWith_spec h2
  cases Option.some.inj (hn9.symm.trans hn)
  obtain ⟨kY, hkY, -⟩ := className_of_methodNamed hn
  have hinitY : kY.init = .initialized := Cond.initialized_spec (findClass_of_methodNamed hn) hkY h3
  have h : At U g.method c below := by rw [hg]; exact X.here
  have hlocals9 : W9 + (maxL + 11) + (headSpec ws rm).room.locals ≤ R.locals := hlocals
  have happ : (headSpec ws rm).appliesLoose y e.platform (U.calling g mk a) = true :=
    Spec.appliesLoose_calling (g := g) h hdg hn hkY hinitY
      (X.room_calling (g := g) (R' := (headSpec ws rm).room) hsize hmY hcY hframes (by rw [hlY]; omega) h4 h5) h1
  obtain ⟨mid, hmid⟩ := h.above
  have hfr : (U.setTop g).frames = (.java g :: mid) ++ below := by rw [State.frames_setTop' g h.top, hmid]; rfl
  obtain ⟨o, s₂, hsteps, -, hend, hq⟩ := Steps.callFree hM p X.admits X.cas X.clock (acts := []) hfr happ hPc trivial
  have hq' : vx_Q Qc XC mc ms free a (U.calling g mk a) o s₂ := hq
  rw [State.frames_setTop' g h.top] at hend
  obtain ⟨g₀, hg0⟩ := Option.isSome_iff_exists.mp h.top
  obtain ⟨r, hr⟩ := State.topJava?_eq_some.mp hg0
  have hr' : (({ U with heap := s₂.heap, slotsUsed := s₂.slotsUsed } : State).setVm s₂.vm).frames = .java g₀ :: r := hr
  rcases hq' with ⟨hqc, L, hfe, hL⟩ | ⟨q, rfl, E, ce, L, hx, hce, hcv, hcl, hW₂, hsm, hL⟩
  · obtain ⟨⟨v, rfl⟩, hW₂, e2, q2, q3, q4, q5, q6⟩ := id hfe
    have e3 : s₂ = ({ (U.calling g mk a).setFrames s₂.frames with heap := s₂.heap, slotsUsed := s₂.slotsUsed } : State).setVm s₂.vm := by
      have : s₂ = ({ s₂ with vm := (U.calling g mk a).vm } : State).setVm s₂.vm := rfl
      rw [e2] at this
      exact this
    obtain ⟨c₂, i₂, len₂, hc₂, hd₂, hf₂⟩ := hend
    have hW' : U.WarmedH s₂.vm := hW₂
    have hcc : c₂ = c := by
      have h1 : s₂.code? g.method = U.code? g.method := by
        rw [State.code?_eq, State.code?_eq, hW'.alike.method?]
      exact Option.some.inj (hc₂.symm.trans (h1.trans h.code))
    subst hcc
    have hlen : len₂ = len := by rw [hdg] at hd₂; cases hd₂; rfl
    subst hlen
    have hs₂ : s₂ = (({ U with heap := s₂.heap, slotsUsed := s₂.slotsUsed } : State).setVm s₂.vm).setTop { g with pc := g.pc + len₂, stack := v.toList ++ g.stack } := by
      refine e3.trans ?_
      rw [hf₂, State.calling_eq h.top, State.setFrames_setFrames, State.setTop_of_frames _ hr', hr]
      rfl
    have hsame : U.sameButNew ({ U with heap := s₂.heap, slotsUsed := s₂.slotsUsed } : State) L mc ms := by
      refine ⟨?_, q2, q3, q4, q5, q6⟩
      obtain ⟨t, ht, -⟩ := State.frames_cons hr
      show ({ U with heap := s₂.heap, slotsUsed := s₂.slotsUsed } : State) = { U.setFrames U.frames with heap := s₂.heap, slotsUsed := s₂.slotsUsed }
      rw [State.setFrames_self ht]
    subst hg
    refine Or.inl ⟨v, ⟨(({ U with heap := s₂.heap, slotsUsed := s₂.slotsUsed } : State).setVm s₂.vm), Ls ++ L, c0 + mc, s0 + ms⟩,
      ⟨X.admits, X.cas, X.clock, X.frames, X.room, X.hears, X.method, X.code, (X.here.setHeapUsed s₂.heap s₂.slotsUsed).setVm hW'.alike, X.tail, State.WarmedH.trans X.warmed hW', X.limits, X.bytes, X.same.trans (hsame.setVm s.vm)⟩,
      ⟨g, mk, s₂, L, rfl, rfl, hqc, rfl, hL, rfl, rfl⟩, ?_⟩
    show Steps p.tables e below _ ((({ U with heap := s₂.heap, slotsUsed := s₂.slotsUsed } : State).setVm s₂.vm).setTop { g with pc := g.pc + len₂, stack := v.toList ++ g.stack })
    rw [← hs₂]
    exact hsteps
  · obtain ⟨e2, q2, q3, q4, q5, q6⟩ := id hsm
    have e3 : s₂ = ({ (U.calling g mk a).setFrames s₂.frames with heap := s₂.heap, slotsUsed := s₂.slotsUsed } : State).setVm s₂.vm := by
      have : s₂ = ({ s₂ with vm := (U.calling g mk a).vm } : State).setVm s₂.vm := rfl
      rw [e2] at this
      exact this
    have hf₂ : s₂.frames = .throwing q :: .java g :: U.frames.tail := hend
    have hW' : U.WarmedH s₂.vm := hW₂
    have hs₂ : s₂ = ((({ U with heap := s₂.heap, slotsUsed := s₂.slotsUsed } : State).setVm s₂.vm).setTop g).pushFrame (.throwing q) := by
      refine e3.trans ?_
      rw [hf₂, State.calling_eq h.top, State.setFrames_setFrames, State.pushFrame, State.frames_setTop _ hr', State.setTop_of_frames _ hr', State.setFrames_setFrames, hr]
      rfl
    have hsame : U.sameButNew ({ U with heap := s₂.heap, slotsUsed := s₂.slotsUsed } : State) L mc ms := by
      refine ⟨?_, q2, q3, q4, q5, q6⟩
      obtain ⟨t, ht, -⟩ := State.frames_cons hr
      show ({ U with heap := s₂.heap, slotsUsed := s₂.slotsUsed } : State) = { U.setFrames U.frames with heap := s₂.heap, slotsUsed := s₂.slotsUsed }
      rw [State.setFrames_self ht]
    subst hg
    refine Or.inr ⟨q, ⟨(({ U with heap := s₂.heap, slotsUsed := s₂.slotsUsed } : State).setVm s₂.vm), Ls ++ L, c0 + mc, s0 + ms⟩,
      ⟨X.admits, X.cas, X.clock, X.frames, X.room, X.hears, X.method, X.code, (X.here.setHeapUsed s₂.heap s₂.slotsUsed).setVm hW'.alike, X.tail, State.WarmedH.trans X.warmed hW', X.limits, X.bytes, X.same.trans (hsame.setVm s.vm)⟩,
      ⟨g, mk, s₂, L, E, ce, rfl, rfl, hx, hce, hcv, hcl, rfl, hL, rfl, rfl⟩, ?_⟩
    show Steps p.tables e below _ (((({ U with heap := s₂.heap, slotsUsed := s₂.slotsUsed } : State).setVm s₂.vm).setTop g).pushFrame (.throwing q))
    rw [← hs₂]
    exact hsteps
end
variable {p : Program} {l : Launch} {e : Env} {R : Room} {s : State} {m : MethodId} {args : Array Value} {below : List Frame} {meth : Method} {c : Code} {T : State} {H : Heap} {locs : List Loc} {cells slots : Nat}
theorem vx_callVX (X : Stand p l e R s m args below meth c T locs cells slots) (hexec : p.tables.exec = Jvm.exec) {own C : String} {index : Nat} {y : MethodName} {bytes : ByteArray} {maxL : Nat} {ret : Option FieldType} {hh : List (Nat × Nat × Nat × Nat)}
    (hown : s.vm.findClass own = some m.cls) (hlink : (Cond.methodLink own index y).before args s = true) (hinst : (Cond.instanceMethod y).before args s = true) (hsel : (Cond.selects C y y).before args s = true)
    (hcode : (Cond.codeWith y bytes maxL ret hh).before args s = true) (hy : y.cls ≠ "java/lang/invoke/MethodHandle" ∧ y.cls ≠ "java/lang/invoke/VarHandle")
    {W9 : Nat} {Pre : Pt → Array Value → Prop} {Post : Pt → Array Value → Option Value → Pt → Prop} {PostX : Pt → Array Value → Addr → Pt → Prop} (hK : vx_Back l R p e below s args y 3 W9 Pre Post PostX)
    {b : Addr} {cellB : Cell} (hcell : T.heap[b]? = some cellB) (hobj : cellB.vm.isStatics = false) (hcls : s.vm.findClass C = some cellB.cls)
    {g : JFrame} (hg : g.method = m) (hsize : g.locals.size = c.maxLocals) {argsL rest : List Value} (hlen : ∀ sig, parseMethodDescriptor y.desc = some sig → argsL.length = sig.parameters.length)
    (hstack : g.stack = argsL.reverse ++ .ref b :: rest) (hW : 2 * g.monitorRoom + (rest.map fun v => v.category).sum ≤ W9) (hdg : decode c.code g.pc = .ok (.invokevirtual index, 3))
    (hpre : ∀ vm₁, s.WarmedH vm₁ → Pre ⟨T.setVm vm₁, locs, cells, slots⟩ (Value.ref b :: argsL).toArray) :
    (∃ (v : Option Value) (vm₁ : Vm) (B : Pt), s.WarmedH vm₁ ∧ Stand p l e R s m args below meth c B.U B.locs B.cells B.slots ∧ Post ⟨T.setVm vm₁, locs, cells, slots⟩ (Value.ref b :: argsL).toArray v B ∧
      ∀ target, Steps p.tables e below (B.U.setTop { g with pc := g.pc + 3, stack := v.toList ++ rest }) target → Steps p.tables e below (T.setTop g) target) ∨
    (∃ (q : Addr) (vm₁ : Vm) (B : Pt), s.WarmedH vm₁ ∧ Stand p l e R s m args below meth c B.U B.locs B.cells B.slots ∧ PostX ⟨T.setVm vm₁, locs, cells, slots⟩ (Value.ref b :: argsL).toArray q B ∧
      Steps p.tables e below (T.setTop g) ((B.U.setTop { g with stack := rest }).pushFrame (.throwing q))) := by
  obtain ⟨mk, methM, hnamed, hmethM, hstM, habM⟩ := Cond.instanceMethod_spec hinst
  obtain ⟨m8, methM', cM, hn8, hmethM', -, -, -, -, -, -, hsigM⟩ := Cond.codeWith_spec hcode
  cases Option.some.inj (hn8.symm.trans hnamed)
  cases hmethM.symm.trans hmethM'
  obtain ⟨c2, r2, m2, q1, q2, q3, q4, kP, hkP, hkPi⟩ := Cond.selects_spec hsel
  cases hcls.symm.trans q1
  cases (State.methodFound?_of_named hnamed hy).symm.trans q2
  cases hnamed.symm.trans q3
  have hselP : selectMethod e.platform s.vm cellB.cls mk = .method mk := by rw [Launch.admits_selectMethod X.admits]; exact q4
  obtain ⟨vm₁, X₁, hstep₁⟩ := X.invokevirtual hexec hown hlink hnamed hmethM hstM hkP hkPi hy (a := b) (cell := cellB) hcell
    (fun z h => by rw [h] at hobj; cases hobj) hselP hmethM habM hkP hkPi (g := g) hg (argsL := argsL) (rest := rest) (hlen _ hsigM) hstack hdg
  rcases hK m meth c ⟨T.setVm vm₁, locs, cells, slots⟩ { g with stack := rest } (.invokevirtual index) mk (Value.ref b :: argsL).toArray X₁ hg hsize hdg hW (X₁.named hnamed) (hpre vm₁ X₁.warmed) with ⟨v, B, X', hpost, hsteps⟩ | ⟨q, B, X', hpost, hsteps⟩
  · exact Or.inl ⟨v, vm₁, B, X₁.warmed, X', hpost, fun target h => hstep₁ _ fun acts => by rw [doInvoke_state]; exact hsteps.trans h⟩
  · exact Or.inr ⟨q, vm₁, B, X₁.warmed, X', hpost, hstep₁ _ fun acts => by rw [doInvoke_state]; exact hsteps⟩
theorem vx_callSX (X : Stand p l e R s m args below meth c T locs cells slots) (hexec : p.tables.exec = Jvm.exec) {own : String} {index : Nat} {y : MethodName} {bytes : ByteArray} {maxL : Nat} {ret : Option FieldType} {hh : List (Nat × Nat × Nat × Nat)}
    (hown : s.vm.findClass own = some m.cls) (hlink : (Cond.methodLink own index y).before args s = true) (hstat : (Cond.static y).before args s = true) (hinit : (Cond.initialized y.cls).before args s = true)
    (hcode : (Cond.codeWith y bytes maxL ret hh).before args s = true) (hy : y.cls ≠ "java/lang/invoke/MethodHandle" ∧ y.cls ≠ "java/lang/invoke/VarHandle")
    {W9 : Nat} {Pre : Pt → Array Value → Prop} {Post : Pt → Array Value → Option Value → Pt → Prop} {PostX : Pt → Array Value → Addr → Pt → Prop} (hK : vx_Back l R p e below s args y 3 W9 Pre Post PostX)
    {g : JFrame} (hg : g.method = m) (hsize : g.locals.size = c.maxLocals) {argsL rest : List Value} (hlen : ∀ sig, parseMethodDescriptor y.desc = some sig → argsL.length = sig.parameters.length)
    (hstack : g.stack = argsL.reverse ++ rest) (hW : 2 * g.monitorRoom + (rest.map fun v => v.category).sum ≤ W9) (hdg : decode c.code g.pc = .ok (.invokestatic index, 3))
    (hpre : ∀ vm₁, s.WarmedH vm₁ → Pre ⟨T.setVm vm₁, locs, cells, slots⟩ argsL.toArray) :
    (∃ (v : Option Value) (vm₁ : Vm) (B : Pt), s.WarmedH vm₁ ∧ Stand p l e R s m args below meth c B.U B.locs B.cells B.slots ∧ Post ⟨T.setVm vm₁, locs, cells, slots⟩ argsL.toArray v B ∧
      ∀ target, Steps p.tables e below (B.U.setTop { g with pc := g.pc + 3, stack := v.toList ++ rest }) target → Steps p.tables e below (T.setTop g) target) ∨
    (∃ (q : Addr) (vm₁ : Vm) (B : Pt), s.WarmedH vm₁ ∧ Stand p l e R s m args below meth c B.U B.locs B.cells B.slots ∧ PostX ⟨T.setVm vm₁, locs, cells, slots⟩ argsL.toArray q B ∧
      Steps p.tables e below (T.setTop g) ((B.U.setTop { g with stack := rest }).pushFrame (.throwing q))) := by
  obtain ⟨mk, methM, cM, hnamed, hmethM, -, -, -, -, -, -, hsigM⟩ := Cond.codeWith_spec hcode
  have hstatic : methM.isStatic = true := Cond.static_spec hnamed hmethM hstat
  obtain ⟨kP, hkP, -⟩ := className_of_methodNamed hnamed
  have hinitP : kP.init = .initialized := Cond.initialized_spec (findClass_of_methodNamed hnamed) hkP hinit
  obtain ⟨vm₁, X₁, hstep₁⟩ := X.invokestatic hexec hown hlink hnamed hmethM hstatic hkP hinitP hy (g := g) hg (argsL := argsL) (rest := rest) (hlen _ hsigM) hstack hdg
  rcases hK m meth c ⟨T.setVm vm₁, locs, cells, slots⟩ { g with stack := rest } (.invokestatic index) mk argsL.toArray X₁ hg hsize hdg hW (X₁.named hnamed) (hpre vm₁ X₁.warmed) with ⟨v, B, X', hpost, hsteps⟩ | ⟨q, B, X', hpost, hsteps⟩
  · exact Or.inl ⟨v, vm₁, B, X₁.warmed, X', hpost, fun target h => hstep₁ _ fun acts => by rw [doInvoke_state]; exact hsteps.trans h⟩
  · exact Or.inr ⟨q, vm₁, B, X₁.warmed, X', hpost, hstep₁ _ fun acts => by rw [doInvoke_state]; exact hsteps⟩
theorem vx_callVW (X : Stand p l e R s m args below meth c T locs cells slots) (hexec : p.tables.exec = Jvm.exec) {own C : String} {index : Nat} {y : MethodName} {bytes : ByteArray} {maxL : Nat} {ret : Option FieldType} {hh : List (Nat × Nat × Nat × Nat)}
    (hown : s.vm.findClass own = some m.cls) (hlink : (Cond.methodLink own index y).before args s = true) (hinst : (Cond.instanceMethod y).before args s = true) (hsel : (Cond.selects C y y).before args s = true)
    (hcode : (Cond.codeWith y bytes maxL ret hh).before args s = true) (hy : y.cls ≠ "java/lang/invoke/MethodHandle" ∧ y.cls ≠ "java/lang/invoke/VarHandle")
    {W9 : Nat} {Pre : Pt → Array Value → Prop} {Post : Pt → Array Value → Option Value → Pt → Prop} (hK : Back l R p e below s args y 3 W9 Pre Post)
    {b : Addr} {cellB : Cell} (hcell : T.heap[b]? = some cellB) (hobj : cellB.vm.isStatics = false) (hcls : s.vm.findClass C = some cellB.cls)
    {g : JFrame} (hg : g.method = m) (hsize : g.locals.size = c.maxLocals) {argsL rest : List Value} (hlen : ∀ sig, parseMethodDescriptor y.desc = some sig → argsL.length = sig.parameters.length)
    (hstack : g.stack = argsL.reverse ++ .ref b :: rest) (hW : 2 * g.monitorRoom + (rest.map fun v => v.category).sum ≤ W9) (hdg : decode c.code g.pc = .ok (.invokevirtual index, 3))
    (hpre : ∀ vm₁, s.WarmedH vm₁ → Pre ⟨T.setVm vm₁, locs, cells, slots⟩ (Value.ref b :: argsL).toArray) :
    ∃ (v : Option Value) (vm₁ : Vm) (B : Pt), s.WarmedH vm₁ ∧ Stand p l e R s m args below meth c B.U B.locs B.cells B.slots ∧ Post ⟨T.setVm vm₁, locs, cells, slots⟩ (Value.ref b :: argsL).toArray v B ∧
      ∀ target, Steps p.tables e below (B.U.setTop { g with pc := g.pc + 3, stack := v.toList ++ rest }) target → Steps p.tables e below (T.setTop g) target := by
  obtain ⟨mk, methM, hnamed, hmethM, hstM, habM⟩ := Cond.instanceMethod_spec hinst
  obtain ⟨m8, methM', cM, hn8, hmethM', -, -, -, -, -, -, hsigM⟩ := Cond.codeWith_spec hcode
  cases Option.some.inj (hn8.symm.trans hnamed)
  cases hmethM.symm.trans hmethM'
  obtain ⟨c2, r2, m2, q1, q2, q3, q4, kP, hkP, hkPi⟩ := Cond.selects_spec hsel
  cases hcls.symm.trans q1
  cases (State.methodFound?_of_named hnamed hy).symm.trans q2
  cases hnamed.symm.trans q3
  have hselP : selectMethod e.platform s.vm cellB.cls mk = .method mk := by rw [Launch.admits_selectMethod X.admits]; exact q4
  obtain ⟨vm₁, X₁, hstep₁⟩ := X.invokevirtual hexec hown hlink hnamed hmethM hstM hkP hkPi hy (a := b) (cell := cellB) hcell
    (fun z h => by rw [h] at hobj; cases hobj) hselP hmethM habM hkP hkPi (g := g) hg (argsL := argsL) (rest := rest) (hlen _ hsigM) hstack hdg
  obtain ⟨v, B, X', hpost, hsteps⟩ := hK m meth c ⟨T.setVm vm₁, locs, cells, slots⟩ { g with stack := rest } (.invokevirtual index) mk (Value.ref b :: argsL).toArray X₁ hg hsize hdg hW (X₁.named hnamed) (hpre vm₁ X₁.warmed)
  exact ⟨v, vm₁, B, X₁.warmed, X', hpost, fun target h => hstep₁ _ fun acts => by rw [doInvoke_state]; exact hsteps.trans h⟩
abbrev vx_CVW (R : Room) (s : State) (args : Array Value) (own C : String) (index : Nat) (y : MethodName) (bytes : ByteArray) (maxL : Nat) (ret : Option FieldType) (hh : List (Nat × Nat × Nat × Nat)) (ws : List Cond) (rm : Room) (mc ms n : Nat) : Prop :=
  (rm.cells = mc ∧ rm.slots = ms ∧ rm.frames + 1 ≤ R.frames ∧ 8 + (maxL + 11) + rm.locals ≤ R.locals ∧ (∀ w ∈ ws, ∀ (a' : Array Value) (U : State), s.WarmedH U.vm → w.before a' U = true) ∧ Cond.codeWith y bytes maxL ret hh ∈ ws) ∧
  (Cond.codeWith y bytes maxL ret hh).before args s = true ∧ (Cond.initialized y.cls).before args s = true ∧ (y.cls ≠ "java/lang/invoke/MethodHandle" ∧ y.cls ≠ "java/lang/invoke/VarHandle") ∧
  (∀ sig, parseMethodDescriptor y.desc = some sig → n = sig.parameters.length) ∧ (Cond.methodLink own index y).before args s = true ∧ (Cond.instanceMethod y).before args s = true ∧ (Cond.selects C y y).before args s = true
theorem vx_cwVW {own C : String} {index maxL mc ms : Nat} {y : MethodName} {bytes : ByteArray} {ret : Option FieldType} {hh : List (Nat × Nat × Nat × Nat)} {Ts ws ws' : List Cond} {rm : Room} (n : Nat) (ht : ∀ w ∈ Ts, w.before args s = true) (hT : GoodIn Ts (wsV own index C y ws)) (hw : ws = Cond.codeWith y bytes maxL ret hh :: ws') (hrc : rm.cells = mc) (hrs : rm.slots = ms)
    (hd : y.cls = C ∧ y.cls ≠ "java/lang/invoke/MethodHandle" ∧ y.cls ≠ "java/lang/invoke/VarHandle" ∧ (parseMethodDescriptor y.desc).map (fun d => d.parameters.length) = some n) (hR : rm.frames + 1 ≤ R.frames ∧ 8 + (maxL + 11) + rm.locals ≤ R.locals) :
    vx_CVW R s args own C index y bytes maxL ret hh ws rm mc ms n := by
  obtain ⟨hC, hd⟩ := hd
  subst hC
  have ok : ∀ w ∈ wsV own index y.cls y ws, w.before args s = true := fun w h => ht w (hT w h).1
  have hG : GoodIn Ts ws := fun w h => hT w (by unfold wsV; exact List.mem_append_right _ h)
  have hc : Cond.codeWith y bytes maxL ret hh ∈ ws := by rw [hw]; exact List.mem_cons_self
  refine ⟨⟨hrc, hrs, hR.1, hR.2, pay_in ht hG, hc⟩, ht _ (hG _ hc).1, ok _ (by simp [wsV]), ⟨hd.1, hd.2.1⟩, fun sig h => ?_, ok _ (by simp [wsV]), ok _ (by simp [wsV]), ok _ (by simp [wsV])⟩
  have h2 := hd.2.2
  rw [h] at h2
  exact (Option.some.inj h2).symm
theorem vx_runVW {y : MethodName} {bytes cc : ByteArray} {maxL nL mc ms n index : Nat} {ret : Option FieldType} {hh : List (Nat × Nat × Nat × Nat)} {ws : List Cond} {rm : Room} {Pc : Array Value → State → Prop} {Qc : Array Value → State → Outcome → State → Prop} {free : Addr → Prop} {Ts : List Cond} {own C : String} {b : Addr} {As rest : List Value} {g : JFrame}
    (S : CallFix p m c cc nL s args Ts own) (hM : Met l y ws rm Pc Qc mc ms free) (cw : vx_CVW R s args own C index y bytes maxL ret hh ws rm mc ms n) (hp : PreV s H C b Pc As)
    (hg : g.method = m) (hn : As.length = n) (hsize : g.locals.size = nL) (hstack : g.stack = As.reverse ++ .ref b :: rest) (hW : 2 * g.monitorRoom + (rest.map fun v => v.category).sum ≤ 8) (hdg : decode cc g.pc = .ok (.invokevirtual index, 3)) (hf : cells + mc ≤ R.cells ∧ slots + ms ≤ R.slots) :
    va_Run p l e R s m args below meth c H locs cells slots mc ms g rest (Qc (Value.ref b :: As).toArray) free := by
  obtain ⟨⟨hrc, hrs, hfr, hlo, hws, hcw⟩, hcode, hini, hy, hlen, hl, hin, hse⟩ := cw
  have hK : Back l R p e below s args y 3 8 (PreOf R mc ms Pc) (PostOf Qc mc ms free) := va_backW (hh := hh) (bytes := bytes) (maxL := maxL) (ret := ret) hM hp.1 hrc hrs hfr hlo hws hcw (fun a' U hW => word_at hW (Or.inl (by first | rfl | simp [Cond.onTables, Cond.keeps, Cond.steady])) hini)
  obtain ⟨hx, hb, hml, ho, -⟩ := S
  obtain ⟨-, ⟨cellB, hcB, hoB, hclB⟩, hPc⟩ := hp
  intro T hT X
  obtain ⟨v, vm₁, ⟨U', l2, c2, s2⟩, hW₁, X', ⟨g', mk, t, L, e1, e2, hq, h1, hL, h2, h3⟩, st⟩ := vx_callVW X hx (C := C) (hh := hh) (bytes := bytes) (maxL := maxL) (ret := ret) ho hl hin hse hcode hy hK (by rw [hT]; exact hcB) hoB hclB hg (hsize.trans hml.symm) (argsL := As) (rest := rest) (fun sig h => hn.trans (hlen sig h)) hstack hW (by rw [hb]; exact hdg)
    (fun vm₁ hW₁ => ⟨hf.1, hf.2, hPc (T.setVm vm₁) hT hW₁⟩)
  dsimp only [Pt.U, Pt.locs, Pt.cells, Pt.slots] at X' e1 e2 h1 h2 h3 st
  subst h1; subst h2; subst h3
  exact ⟨v, (T.setVm vm₁).calling g' mk (Value.ref b :: As).toArray, t, U', L, hT, X', hL, e1, e2, hq, st⟩
section
variable {y : MethodName} {bytes cc : ByteArray} {maxL nL mc ms n index : Nat} {ret : Option FieldType} {ws : List Cond} {rm : Room} {Pc : Array Value → State → Prop} {Qc : Array Value → State → Outcome → State → Prop} {XC : String → State → State → Prop} {free : Addr → Prop} {Ts : List Cond} {own C : String} {b : Addr} {As rest : List Value} {g : JFrame}
theorem vx_runVX {hh : List (Nat × Nat × Nat × Nat)} (S : CallFix p m c cc nL s args Ts own) (hM : vx_Met l y ws rm Pc Qc XC mc ms free) (cw : vx_CVW R s args own C index y bytes maxL ret hh ws rm mc ms n) (hp : PreV s H C b Pc As)
    (hg : g.method = m) (hn : As.length = n) (hsize : g.locals.size = nL) (hstack : g.stack = As.reverse ++ .ref b :: rest) (hW : 2 * g.monitorRoom + (rest.map fun v => v.category).sum ≤ 8) (hdg : decode cc g.pc = .ok (.invokevirtual index, 3)) (hf : cells + mc ≤ R.cells ∧ slots + ms ≤ R.slots) :
    vx_Run p l e R s m args below meth c H locs cells slots mc ms g rest (Qc (Value.ref b :: As).toArray) XC free := by
  obtain ⟨⟨hrc, hrs, hfr, hlo, hws, hcw⟩, hcode, hini, hy, hlen, hl, hin, hse⟩ := cw
  have hK : vx_Back l R p e below s args y 3 8 (PreOf R mc ms Pc) (PostOf Qc mc ms free) (vx_Post XC mc ms free) := vx_backW (hh := hh) (bytes := bytes) (maxL := maxL) (ret := ret) hM hp.1 hrc hrs hfr hlo hws hcw (fun a' U hW => word_at hW (Or.inl (by first | rfl | simp [Cond.onTables, Cond.keeps, Cond.steady])) hini)
  obtain ⟨hx, hb, hml, ho, -⟩ := S
  obtain ⟨-, ⟨cellB, hcB, hoB, hclB⟩, hPc⟩ := hp
  intro T hT X
  rcases vx_callVX X hx (C := C) (hh := hh) (bytes := bytes) (maxL := maxL) (ret := ret) ho hl hin hse hcode hy hK (by rw [hT]; exact hcB) hoB hclB hg (hsize.trans hml.symm) (argsL := As) (rest := rest) (fun sig h => hn.trans (hlen sig h)) hstack hW (by rw [hb]; exact hdg)
    (fun vm₁ hW₁ => ⟨hf.1, hf.2, hPc (T.setVm vm₁) hT hW₁⟩) with ⟨v, vm₁, ⟨U', l2, c2, s2⟩, hW₁, X', ⟨g', mk, t, L, e1, e2, hq, h1, hL, h2, h3⟩, st⟩ | ⟨q, vm₁, ⟨U', l2, c2, s2⟩, hW₁, X', ⟨g', mk, t, L, E, ce, e1, e2, hq, hce, hcv, hcl, h1, hL, h2, h3⟩, st⟩
  · dsimp only [Pt.U, Pt.locs, Pt.cells, Pt.slots] at X' e1 e2 h1 h2 h3 st
    subst h1; subst h2; subst h3
    exact Or.inl ⟨v, (T.setVm vm₁).calling g' mk (Value.ref b :: As).toArray, t, U', L, hT, X', hL, e1, e2, hq, st⟩
  · dsimp only [Pt.U, Pt.locs, Pt.cells, Pt.slots] at X' e1 e2 h1 h2 h3 st hcl
    subst h1; subst h2; subst h3
    exact Or.inr ⟨q, (T.setVm vm₁).calling g' mk (Value.ref b :: As).toArray, t, U', L, E, ce, hT, X', hL, e1, e2, hq, hce, hcv, vx_cls hW₁ hcl, st⟩
theorem vx_runSX {hh : List (Nat × Nat × Nat × Nat)} (S : CallFix p m c cc nL s args Ts own) (hM : vx_Met l y ws rm Pc Qc XC mc ms free) (cw : vx_CSW R s args own index y bytes maxL ret hh ws rm mc ms n) (hp : PreS s H Pc As)
    (hg : g.method = m) (hn : As.length = n) (hsize : g.locals.size = nL) (hstack : g.stack = As.reverse ++ rest) (hW : 2 * g.monitorRoom + (rest.map fun v => v.category).sum ≤ 8) (hdg : decode cc g.pc = .ok (.invokestatic index, 3)) (hf : cells + mc ≤ R.cells ∧ slots + ms ≤ R.slots) :
    vx_Run p l e R s m args below meth c H locs cells slots mc ms g rest (Qc As.toArray) XC free := by
  obtain ⟨⟨hrc, hrs, hfr, hlo, hws, hcw⟩, hcode, hini, hy, hlen, hl, hstt⟩ := cw
  have hK : vx_Back l R p e below s args y 3 8 (PreOf R mc ms Pc) (PostOf Qc mc ms free) (vx_Post XC mc ms free) := vx_backW (hh := hh) (bytes := bytes) (maxL := maxL) (ret := ret) hM hp.1 hrc hrs hfr hlo hws hcw (fun a' U hW => word_at hW (Or.inl (by first | rfl | simp [Cond.onTables, Cond.keeps, Cond.steady])) hini)
  obtain ⟨hx, hb, hml, ho, -⟩ := S
  intro T hT X
  rcases vx_callSX X hx (hh := hh) (bytes := bytes) (maxL := maxL) (ret := ret) ho hl hstt hini hcode hy hK hg (hsize.trans hml.symm) (argsL := As) (rest := rest) (fun sig h => hn.trans (hlen sig h)) hstack hW (by rw [hb]; exact hdg)
    (fun vm₁ hW₁ => ⟨hf.1, hf.2, hp.2 (T.setVm vm₁) hT hW₁⟩) with ⟨v, vm₁, ⟨U', l2, c2, s2⟩, hW₁, X', ⟨g', mk, t, L, e1, e2, hq, h1, hL, h2, h3⟩, st⟩ | ⟨q, vm₁, ⟨U', l2, c2, s2⟩, hW₁, X', ⟨g', mk, t, L, E, ce, e1, e2, hq, hce, hcv, hcl, h1, hL, h2, h3⟩, st⟩
  · dsimp only [Pt.U, Pt.locs, Pt.cells, Pt.slots] at X' e1 e2 h1 h2 h3 st
    subst h1; subst h2; subst h3
    exact Or.inl ⟨v, (T.setVm vm₁).calling g' mk As.toArray, t, U', L, hT, X', hL, e1, e2, hq, st⟩
  · dsimp only [Pt.U, Pt.locs, Pt.cells, Pt.slots] at X' e1 e2 h1 h2 h3 st hcl
    subst h1; subst h2; subst h3
    exact Or.inr ⟨q, (T.setVm vm₁).calling g' mk As.toArray, t, U', L, E, ce, hT, X', hL, e1, e2, hq, hce, hcv, vx_cls hW₁ hcl, st⟩
end
end VXH
theorem vx_ofWH {l : Launch} {y : MethodName} {ws ws' : List Cond} {rm : Room} {Pc : Array Value → State → Prop} {Qc : Array Value → State → Outcome → State → Prop} {XC : String → State → State → Prop} {mc ms : Nat} {free : Addr → Prop} {cc : ByteArray} {maxL : Nat} {ret : Option FieldType} {hh : List (Nat × Nat × Nat × Nat)}
    (hy : plainName y.cls = true) (hw : ws = Cond.codeWith y cc maxL ret hh :: ws')
    (body : ∀ p e s m args below meth c s₁, BodyLoose p l y (headSpec ws rm) cc maxL ret e s m args below meth c s₁ → c.maxLocals = maxL → Pc args s →
      W p l e (headSpec ws rm).room s m args below meth c s.heap [] 0 0 (vx_MQ below Qc XC args s mc ms free) (entryFrame m args maxL)) : vx_Met l y ws rm Pc Qc XC mc ms free := by
  refine MetFree.of_bodyS (code := cc) (maxLocals := maxL) (ret := ret) hy ?_ ?_
  · intro args s m h hn
    obtain ⟨m9, meth, c, hn9, h1, h2, h3, h4, -, h5, h6, -⟩ := Cond.codeWith_spec (atoms_spec (ws := ws) h _ (by rw [hw]; exact List.mem_cons_self))
    cases hn.symm.trans hn9
    exact ⟨meth, c, h1, h2, h3, h4, h5, h6⟩
  · intro p e s m args below meth c s₁ B hml hP _
    have hh0 : s₁.heap = s.heap := by rw [B.state]; rfl
    obtain ⟨t, a1, o, b1, b2, b3⟩ := body p e s m args below meth c s₁ B hml hP s₁ hh0 (Stand.of_body B)
    exact ⟨t, o, a1, b1, b2, b3⟩
/-! ===== END ===== -/
end
section
def RX0 : String := "KeypadWriter$Candidates"
def TX0 : u_T := fun k => match k with
  | 0 => ("KeypadWriter$Candidates", "order", "[I", true)
  | _ => ("KeypadWriter$Candidates", "size", "I", false)
def tyX0 : Nat → FieldType := fun k => match k with
  | 0 => .array .int
  | _ => .int
abbrev wsX00 : List Cond := u_ws RX0 TX0 2
theorem nmX0 : ∀ a, a < 2 → ∀ b, b < 2 → a ≠ b → (TX0 a).2.1 ≠ (TX0 b).2.1 := by decide +kernel
theorem tyX0_ok : ∀ k, k < 2 → parseFieldDescriptor (TX0 k).2.2.1 = some (tyX0 k) := by decide +kernel
abbrev cX0_init : ByteArray := prog_2_method_1_code
def yX0_init : MethodName := ⟨RX0, "<init>", "()V"⟩
abbrev cX0_find : ByteArray := prog_2_method_2_code
def yX0_find : MethodName := ⟨RX0, "find", "(LKeypadWriter$State;)V"⟩
abbrev cX0_wordAt : ByteArray := prog_2_method_3_code
def yX0_wordAt : MethodName := ⟨RX0, "wordAt", "(I)I"⟩
abbrev cX0_insert : ByteArray := prog_2_method_4_code
def yX0_insert : MethodName := ⟨RX0, "insert", "(LKeypadWriter$WordList;II)V"⟩
abbrev cX0_firstWith : ByteArray := prog_2_method_5_code
def yX0_firstWith : MethodName := ⟨RX0, "firstWith", "(LKeypadWriter$WordList;J)I"⟩
abbrev cX0_comesBefore : ByteArray := prog_2_method_6_code
def yX0_comesBefore : MethodName := ⟨RX0, "comesBefore", "(LKeypadWriter$WordList;III)Z"⟩
def RX1 : String := "KeypadWriter$Keys"
def TX1 : u_T := fun k => match k with
  | _ => ("", "", "", false)
def tyX1 : Nat → FieldType := fun k => match k with
  | _ => .int
abbrev wsX10 : List Cond := u_ws RX1 TX1 0
theorem nmX1 : ∀ a, a < 0 → ∀ b, b < 0 → a ≠ b → (TX1 a).2.1 ≠ (TX1 b).2.1 := by decide +kernel
theorem tyX1_ok : ∀ k, k < 0 → parseFieldDescriptor (TX1 k).2.2.1 = some (tyX1 k) := by decide +kernel
abbrev cX1_isKey : ByteArray := prog_3_method_2_code
def yX1_isKey : MethodName := ⟨RX1, "isKey", "(I)Z"⟩
abbrev cX1_keyWith : ByteArray := prog_3_method_3_code
def yX1_keyWith : MethodName := ⟨RX1, "keyWith", "(I)I"⟩
abbrev cX1_firstLetter : ByteArray := prog_3_method_4_code
def yX1_firstLetter : MethodName := ⟨RX1, "firstLetter", "(I)I"⟩
abbrev cX1_letterBehind : ByteArray := prog_3_method_5_code
def yX1_letterBehind : MethodName := ⟨RX1, "letterBehind", "(I)I"⟩
abbrev cX1_tapsOf : ByteArray := prog_3_method_6_code
def yX1_tapsOf : MethodName := ⟨RX1, "tapsOf", "(I)I"⟩
def RX2 : String := "KeypadWriter$ListText"
def TX2 : u_T := fun k => match k with
  | 0 => ("KeypadWriter$ListText", "bytes", "[I", true)
  | 1 => ("KeypadWriter$ListText", "length", "I", false)
  | _ => ("KeypadWriter$ListText", "position", "I", false)
def tyX2 : Nat → FieldType := fun k => match k with
  | 0 => .array .int
  | 1 => .int
  | _ => .int
abbrev wsX20 : List Cond := u_ws RX2 TX2 3
theorem nmX2 : ∀ a, a < 3 → ∀ b, b < 3 → a ≠ b → (TX2 a).2.1 ≠ (TX2 b).2.1 := by decide +kernel
theorem tyX2_ok : ∀ k, k < 3 → parseFieldDescriptor (TX2 k).2.2.1 = some (tyX2 k) := by decide +kernel
abbrev cX2_init : ByteArray := prog_4_method_1_code
def yX2_init : MethodName := ⟨RX2, "<init>", "()V"⟩
abbrev cX2_isFull : ByteArray := prog_4_method_2_code
def yX2_isFull : MethodName := ⟨RX2, "isFull", "()Z"⟩
abbrev cX2_clear : ByteArray := prog_4_method_3_code
def yX2_clear : MethodName := ⟨RX2, "clear", "()V"⟩
abbrev cX2_addByte : ByteArray := prog_4_method_4_code
def yX2_addByte : MethodName := ⟨RX2, "addByte", "(I)V"⟩
abbrev cX2_readInto : ByteArray := prog_4_method_5_code
def yX2_readInto : MethodName := ⟨RX2, "readInto", "(LKeypadWriter$WordList;)I"⟩
abbrev cX2_readItem : ByteArray := prog_4_method_6_code
def yX2_readItem : MethodName := ⟨RX2, "readItem", "(LKeypadWriter$WordList;)Z"⟩
abbrev cX2_readWord : ByteArray := prog_4_method_7_code
def yX2_readWord : MethodName := ⟨RX2, "readWord", "()J"⟩
abbrev cX2_readCount : ByteArray := prog_4_method_8_code
def yX2_readCount : MethodName := ⟨RX2, "readCount", "()I"⟩
abbrev cX2_isHere : ByteArray := prog_4_method_9_code
def yX2_isHere : MethodName := ⟨RX2, "isHere", "(II)Z"⟩
abbrev cX2_byteHere : ByteArray := prog_4_method_10_code
def yX2_byteHere : MethodName := ⟨RX2, "byteHere", "()I"⟩
def RX3 : String := "KeypadWriter$SavedStates"
def TX3 : u_T := fun k => match k with
  | 0 => ("KeypadWriter$SavedStates", "states", "[LKeypadWriter$State;", true)
  | _ => ("KeypadWriter$SavedStates", "size", "I", false)
def tyX3 : Nat → FieldType := fun k => match k with
  | 0 => .array (.object "KeypadWriter$State")
  | _ => .int
abbrev wsX30 : List Cond := u_ws RX3 TX3 2
theorem nmX3 : ∀ a, a < 2 → ∀ b, b < 2 → a ≠ b → (TX3 a).2.1 ≠ (TX3 b).2.1 := by decide +kernel
theorem tyX3_ok : ∀ k, k < 2 → parseFieldDescriptor (TX3 k).2.2.1 = some (tyX3 k) := by decide +kernel
abbrev cX3_init : ByteArray := prog_5_method_1_code
def yX3_init : MethodName := ⟨RX3, "<init>", "()V"⟩
abbrev cX3_push : ByteArray := prog_5_method_2_code
def yX3_push : MethodName := ⟨RX3, "push", "(LKeypadWriter$State;)V"⟩
abbrev cX3_popInto : ByteArray := prog_5_method_3_code
def yX3_popInto : MethodName := ⟨RX3, "popInto", "(LKeypadWriter$State;)V"⟩
abbrev cX3_stateAt : ByteArray := prog_5_method_4_code
def yX3_stateAt : MethodName := ⟨RX3, "stateAt", "(I)LKeypadWriter$State;"⟩
abbrev cX3_dropOldest : ByteArray := prog_5_method_5_code
def yX3_dropOldest : MethodName := ⟨RX3, "dropOldest", "()V"⟩
def RX4 : String := "KeypadWriter$Slots"
def TX4 : u_T := fun k => match k with
  | _ => ("", "", "", false)
def tyX4 : Nat → FieldType := fun k => match k with
  | _ => .int
abbrev wsX40 : List Cond := u_ws RX4 TX4 0
theorem nmX4 : ∀ a, a < 0 → ∀ b, b < 0 → a ≠ b → (TX4 a).2.1 ≠ (TX4 b).2.1 := by decide +kernel
theorem tyX4_ok : ∀ k, k < 0 → parseFieldDescriptor (TX4 k).2.2.1 = some (tyX4 k) := by decide +kernel
abbrev cX4_codeOfLetter : ByteArray := prog_6_method_2_code
def yX4_codeOfLetter : MethodName := ⟨RX4, "codeOfLetter", "(I)I"⟩
abbrev cX4_codeOfKey : ByteArray := prog_6_method_3_code
def yX4_codeOfKey : MethodName := ⟨RX4, "codeOfKey", "(I)I"⟩
abbrev cX4_isLetter : ByteArray := prog_6_method_4_code
def yX4_isLetter : MethodName := ⟨RX4, "isLetter", "(I)Z"⟩
abbrev cX4_letterOf : ByteArray := prog_6_method_5_code
def yX4_letterOf : MethodName := ⟨RX4, "letterOf", "(I)I"⟩
abbrev cX4_keyOf : ByteArray := prog_6_method_6_code
def yX4_keyOf : MethodName := ⟨RX4, "keyOf", "(I)I"⟩
abbrev cX4_codeAt : ByteArray := prog_6_method_7_code
def yX4_codeAt : MethodName := ⟨RX4, "codeAt", "(JI)I"⟩
abbrev cX4_letterAt : ByteArray := prog_6_method_8_code
def yX4_letterAt : MethodName := ⟨RX4, "letterAt", "(JI)I"⟩
abbrev cX4_has : ByteArray := prog_6_method_9_code
def yX4_has : MethodName := ⟨RX4, "has", "(JI)Z"⟩
abbrev cX4_lengthOf : ByteArray := prog_6_method_10_code
def yX4_lengthOf : MethodName := ⟨RX4, "lengthOf", "(J)I"⟩
abbrev cX4_with : ByteArray := prog_6_method_11_code
def yX4_with : MethodName := ⟨RX4, "with", "(JII)J"⟩
abbrev cX4_firstOf : ByteArray := prog_6_method_12_code
def yX4_firstOf : MethodName := ⟨RX4, "firstOf", "(JI)J"⟩
abbrev cX4_keysOf : ByteArray := prog_6_method_13_code
def yX4_keysOf : MethodName := ⟨RX4, "keysOf", "(J)J"⟩
abbrev cX4_firstLetters : ByteArray := prog_6_method_14_code
def yX4_firstLetters : MethodName := ⟨RX4, "firstLetters", "(J)J"⟩
def RX5 : String := "KeypadWriter$State"
def TX5 : u_T := fun k => match k with
  | 0 => ("KeypadWriter$State", "list", "LKeypadWriter$WordList;", true)
  | 1 => ("KeypadWriter$State", "text", "LKeypadWriter$WrittenText;", true)
  | 2 => ("KeypadWriter$State", "clock", "I", false)
  | 3 => ("KeypadWriter$State", "ageing", "I", false)
  | 4 => ("KeypadWriter$State", "completing", "Z", false)
  | 5 => ("KeypadWriter$State", "tapping", "Z", false)
  | 6 => ("KeypadWriter$State", "pending", "I", false)
  | 7 => ("KeypadWriter$State", "present", "J", false)
  | 8 => ("KeypadWriter$State", "chosen", "I", false)
  | _ => ("KeypadWriter$State", "opened", "I", false)
def tyX5 : Nat → FieldType := fun k => match k with
  | 0 => .object "KeypadWriter$WordList"
  | 1 => .object "KeypadWriter$WrittenText"
  | 2 => .int
  | 3 => .int
  | 4 => .boolean
  | 5 => .boolean
  | 6 => .int
  | 7 => .long
  | 8 => .int
  | _ => .int
abbrev wsX50 : List Cond := u_ws RX5 TX5 10
theorem nmX5 : ∀ a, a < 10 → ∀ b, b < 10 → a ≠ b → (TX5 a).2.1 ≠ (TX5 b).2.1 := by decide +kernel
theorem tyX5_ok : ∀ k, k < 10 → parseFieldDescriptor (TX5 k).2.2.1 = some (tyX5 k) := by decide +kernel
abbrev cX5_init : ByteArray := prog_7_method_1_code
def yX5_init : MethodName := ⟨RX5, "<init>", "()V"⟩
abbrev cX5_copyFrom : ByteArray := prog_7_method_2_code
def yX5_copyFrom : MethodName := ⟨RX5, "copyFrom", "(LKeypadWriter$State;)V"⟩
abbrev cX5_places : ByteArray := prog_7_method_3_code
def yX5_places : MethodName := ⟨RX5, "places", "()I"⟩
abbrev cX5_addPlace : ByteArray := prog_7_method_4_code
def yX5_addPlace : MethodName := ⟨RX5, "addPlace", "(I)V"⟩
abbrev cX5_turnLastPlace : ByteArray := prog_7_method_5_code
def yX5_turnLastPlace : MethodName := ⟨RX5, "turnLastPlace", "()V"⟩
abbrev cX5_dropLastPlace : ByteArray := prog_7_method_6_code
def yX5_dropLastPlace : MethodName := ⟨RX5, "dropLastPlace", "()V"⟩
abbrev cX5_openWritten : ByteArray := prog_7_method_7_code
def yX5_openWritten : MethodName := ⟨RX5, "openWritten", "(I)V"⟩
abbrev cX5_takeWord : ByteArray := prog_7_method_8_code
def yX5_takeWord : MethodName := ⟨RX5, "takeWord", "(J)V"⟩
def RX6 : String := "KeypadWriter$WordList"
def TX6 : u_T := fun k => match k with
  | 0 => ("KeypadWriter$WordList", "words", "[J", true)
  | 1 => ("KeypadWriter$WordList", "keys", "[J", true)
  | 2 => ("KeypadWriter$WordList", "counts", "[I", true)
  | 3 => ("KeypadWriter$WordList", "times", "[I", true)
  | 4 => ("KeypadWriter$WordList", "added", "[Z", true)
  | _ => ("KeypadWriter$WordList", "size", "I", false)
def tyX6 : Nat → FieldType := fun k => match k with
  | 0 => .array .long
  | 1 => .array .long
  | 2 => .array .int
  | 3 => .array .int
  | 4 => .array .boolean
  | _ => .int
abbrev wsX60 : List Cond := u_ws RX6 TX6 6
theorem nmX6 : ∀ a, a < 6 → ∀ b, b < 6 → a ≠ b → (TX6 a).2.1 ≠ (TX6 b).2.1 := by decide +kernel
theorem tyX6_ok : ∀ k, k < 6 → parseFieldDescriptor (TX6 k).2.2.1 = some (tyX6 k) := by decide +kernel
abbrev cX6_init : ByteArray := prog_8_method_1_code
def yX6_init : MethodName := ⟨RX6, "<init>", "()V"⟩
abbrev cX6_clear : ByteArray := prog_8_method_2_code
def yX6_clear : MethodName := ⟨RX6, "clear", "()V"⟩
abbrev cX6_copyFrom : ByteArray := prog_8_method_3_code
def yX6_copyFrom : MethodName := ⟨RX6, "copyFrom", "(LKeypadWriter$WordList;)V"⟩
abbrev cX6_has : ByteArray := prog_8_method_4_code
def yX6_has : MethodName := ⟨RX6, "has", "(I)Z"⟩
abbrev cX6_isFull : ByteArray := prog_8_method_5_code
def yX6_isFull : MethodName := ⟨RX6, "isFull", "()Z"⟩
abbrev cX6_wordAt : ByteArray := prog_8_method_6_code
def yX6_wordAt : MethodName := ⟨RX6, "wordAt", "(I)J"⟩
abbrev cX6_keysAt : ByteArray := prog_8_method_7_code
def yX6_keysAt : MethodName := ⟨RX6, "keysAt", "(I)J"⟩
abbrev cX6_countAt : ByteArray := prog_8_method_8_code
def yX6_countAt : MethodName := ⟨RX6, "countAt", "(I)I"⟩
abbrev cX6_timeAt : ByteArray := prog_8_method_9_code
def yX6_timeAt : MethodName := ⟨RX6, "timeAt", "(I)I"⟩
abbrev cX6_isAdded : ByteArray := prog_8_method_10_code
def yX6_isAdded : MethodName := ⟨RX6, "isAdded", "(I)Z"⟩
abbrev cX6_valueOf : ByteArray := prog_8_method_11_code
def yX6_valueOf : MethodName := ⟨RX6, "valueOf", "(II)I"⟩
abbrev cX6_find : ByteArray := prog_8_method_12_code
def yX6_find : MethodName := ⟨RX6, "find", "(J)I"⟩
abbrev cX6_ranksBefore : ByteArray := prog_8_method_13_code
def yX6_ranksBefore : MethodName := ⟨RX6, "ranksBefore", "(II)Z"⟩
abbrev cX6_rankOf : ByteArray := prog_8_method_14_code
def yX6_rankOf : MethodName := ⟨RX6, "rankOf", "(I)I"⟩
abbrev cX6_beginsWith : ByteArray := prog_8_method_15_code
def yX6_beginsWith : MethodName := ⟨RX6, "beginsWith", "(IJ)Z"⟩
abbrev cX6_insert : ByteArray := prog_8_method_16_code
def yX6_insert : MethodName := ⟨RX6, "insert", "(JIIZ)V"⟩
abbrev cX6_remove : ByteArray := prog_8_method_17_code
def yX6_remove : MethodName := ⟨RX6, "remove", "(I)V"⟩
abbrev cX6_countUse : ByteArray := prog_8_method_18_code
def yX6_countUse : MethodName := ⟨RX6, "countUse", "(JI)V"⟩
abbrev cX6_lastAdded : ByteArray := prog_8_method_19_code
def yX6_lastAdded : MethodName := ⟨RX6, "lastAdded", "()I"⟩
abbrev cX6_ageAllBut : ByteArray := prog_8_method_20_code
def yX6_ageAllBut : MethodName := ⟨RX6, "ageAllBut", "(J)V"⟩
abbrev cX6_stepsTo : ByteArray := prog_8_method_21_code
def yX6_stepsTo : MethodName := ⟨RX6, "stepsTo", "(I)I"⟩
abbrev cX6_guessesFor : ByteArray := prog_8_method_22_code
def yX6_guessesFor : MethodName := ⟨RX6, "guessesFor", "(I)I"⟩
abbrev cX6_tapsFor : ByteArray := prog_8_method_23_code
def yX6_tapsFor : MethodName := ⟨RX6, "tapsFor", "(I)I"⟩
abbrev cX6_clashes : ByteArray := prog_8_method_24_code
def yX6_clashes : MethodName := ⟨RX6, "clashes", "()I"⟩
abbrev cX6_sharesKeys : ByteArray := prog_8_method_25_code
def yX6_sharesKeys : MethodName := ⟨RX6, "sharesKeys", "(I)Z"⟩
abbrev cX6_savingOfAll : ByteArray := prog_8_method_26_code
def yX6_savingOfAll : MethodName := ⟨RX6, "savingOfAll", "()D"⟩
def RX7 : String := "KeypadWriter$WrittenText"
def TX7 : u_T := fun k => match k with
  | 0 => ("KeypadWriter$WrittenText", "words", "[J", true)
  | _ => ("KeypadWriter$WrittenText", "size", "I", false)
def tyX7 : Nat → FieldType := fun k => match k with
  | 0 => .array .long
  | _ => .int
abbrev wsX70 : List Cond := u_ws RX7 TX7 2
theorem nmX7 : ∀ a, a < 2 → ∀ b, b < 2 → a ≠ b → (TX7 a).2.1 ≠ (TX7 b).2.1 := by decide +kernel
theorem tyX7_ok : ∀ k, k < 2 → parseFieldDescriptor (TX7 k).2.2.1 = some (tyX7 k) := by decide +kernel
abbrev cX7_init : ByteArray := prog_9_method_1_code
def yX7_init : MethodName := ⟨RX7, "<init>", "()V"⟩
abbrev cX7_copyFrom : ByteArray := prog_9_method_2_code
def yX7_copyFrom : MethodName := ⟨RX7, "copyFrom", "(LKeypadWriter$WrittenText;)V"⟩
abbrev cX7_has : ByteArray := prog_9_method_3_code
def yX7_has : MethodName := ⟨RX7, "has", "(I)Z"⟩
abbrev cX7_wordAt : ByteArray := prog_9_method_4_code
def yX7_wordAt : MethodName := ⟨RX7, "wordAt", "(I)J"⟩
abbrev cX7_addWord : ByteArray := prog_9_method_5_code
def yX7_addWord : MethodName := ⟨RX7, "addWord", "(J)V"⟩
abbrev cX7_replace : ByteArray := prog_9_method_6_code
def yX7_replace : MethodName := ⟨RX7, "replace", "(IJ)V"⟩
abbrev cX7_remove : ByteArray := prog_9_method_7_code
def yX7_remove : MethodName := ⟨RX7, "remove", "(I)V"⟩
def RX8 : String := "KeypadWriter"
def TX8 : u_T := fun k => match k with
  | 0 => ("KeypadWriter", "listText", "LKeypadWriter$ListText;", true)
  | 1 => ("KeypadWriter", "listRead", "LKeypadWriter$WordList;", true)
  | 2 => ("KeypadWriter", "state", "LKeypadWriter$State;", true)
  | 3 => ("KeypadWriter", "saved", "LKeypadWriter$SavedStates;", true)
  | _ => ("KeypadWriter", "candidates", "LKeypadWriter$Candidates;", true)
def tyX8 : Nat → FieldType := fun k => match k with
  | 0 => .object "KeypadWriter$ListText"
  | 1 => .object "KeypadWriter$WordList"
  | 2 => .object "KeypadWriter$State"
  | 3 => .object "KeypadWriter$SavedStates"
  | _ => .object "KeypadWriter$Candidates"
abbrev wsX80 : List Cond := u_ws RX8 TX8 5
theorem nmX8 : ∀ a, a < 5 → ∀ b, b < 5 → a ≠ b → (TX8 a).2.1 ≠ (TX8 b).2.1 := by decide +kernel
theorem tyX8_ok : ∀ k, k < 5 → parseFieldDescriptor (TX8 k).2.2.1 = some (tyX8 k) := by decide +kernel
abbrev cX8_init : ByteArray := prog_1_method_1_code
def yX8_init : MethodName := ⟨RX8, "<init>", "()V"⟩
abbrev cX8_append : ByteArray := prog_1_method_2_code
def yX8_append : MethodName := ⟨RX8, "append", "(I)I"⟩
abbrev cX8_clearText : ByteArray := prog_1_method_3_code
def yX8_clearText : MethodName := ⟨RX8, "clearText", "()I"⟩
abbrev cX8_load : ByteArray := prog_1_method_4_code
def yX8_load : MethodName := ⟨RX8, "load", "()I"⟩
abbrev cX8_setWays : ByteArray := prog_1_method_5_code
def yX8_setWays : MethodName := ⟨RX8, "setWays", "(ZI)I"⟩
abbrev cX8_word : ByteArray := prog_1_method_6_code
def yX8_word : MethodName := ⟨RX8, "word", "(II)I"⟩
abbrev cX8_letter : ByteArray := prog_1_method_7_code
def yX8_letter : MethodName := ⟨RX8, "letter", "(II)I"⟩
abbrev cX8_press : ByteArray := prog_1_method_8_code
def yX8_press : MethodName := ⟨RX8, "press", "(I)I"⟩
abbrev cX8_pause : ByteArray := prog_1_method_9_code
def yX8_pause : MethodName := ⟨RX8, "pause", "()I"⟩
abbrev cX8_mode : ByteArray := prog_1_method_10_code
def yX8_mode : MethodName := ⟨RX8, "mode", "(Z)I"⟩
abbrev cX8_next : ByteArray := prog_1_method_11_code
def yX8_next : MethodName := ⟨RX8, "next", "()I"⟩
abbrev cX8_erase : ByteArray := prog_1_method_12_code
def yX8_erase : MethodName := ⟨RX8, "erase", "()I"⟩
abbrev cX8_accept : ByteArray := prog_1_method_13_code
def yX8_accept : MethodName := ⟨RX8, "accept", "()I"⟩
abbrev cX8_open : ByteArray := prog_1_method_14_code
def yX8_open : MethodName := ⟨RX8, "open", "(I)I"⟩
abbrev cX8_setting : ByteArray := prog_1_method_15_code
def yX8_setting : MethodName := ⟨RX8, "setting", "(I)I"⟩
abbrev cX8_place : ByteArray := prog_1_method_16_code
def yX8_place : MethodName := ⟨RX8, "place", "(I)I"⟩
abbrev cX8_display : ByteArray := prog_1_method_17_code
def yX8_display : MethodName := ⟨RX8, "display", "(I)I"⟩
abbrev cX8_candidate : ByteArray := prog_1_method_18_code
def yX8_candidate : MethodName := ⟨RX8, "candidate", "(I)I"⟩
abbrev cX8_written : ByteArray := prog_1_method_19_code
def yX8_written : MethodName := ⟨RX8, "written", "(II)I"⟩
abbrev cX8_steps : ByteArray := prog_1_method_20_code
def yX8_steps : MethodName := ⟨RX8, "steps", "(I)I"⟩
abbrev cX8_presses : ByteArray := prog_1_method_21_code
def yX8_presses : MethodName := ⟨RX8, "presses", "(IZ)I"⟩
abbrev cX8_clashing : ByteArray := prog_1_method_22_code
def yX8_clashing : MethodName := ⟨RX8, "clashing", "()I"⟩
abbrev cX8_saving : ByteArray := prog_1_method_23_code
def yX8_saving : MethodName := ⟨RX8, "saving", "()D"⟩
abbrev cX8_shortest : ByteArray := prog_1_method_24_code
def yX8_shortest : MethodName := ⟨RX8, "shortest", "(I)I"⟩
abbrev cX8_undo : ByteArray := prog_1_method_25_code
def yX8_undo : MethodName := ⟨RX8, "undo", "()I"⟩
abbrev cX8_digest : ByteArray := prog_1_method_26_code
def yX8_digest : MethodName := ⟨RX8, "digest", "()J"⟩
abbrev cX8_mixedWord : ByteArray := prog_1_method_27_code
def yX8_mixedWord : MethodName := ⟨RX8, "mixedWord", "(JI)J"⟩
abbrev cX8_mixedLetters : ByteArray := prog_1_method_28_code
def yX8_mixedLetters : MethodName := ⟨RX8, "mixedLetters", "(JJ)J"⟩
abbrev cX8_mixed : ByteArray := prog_1_method_29_code
def yX8_mixed : MethodName := ⟨RX8, "mixed", "(JI)J"⟩
abbrev cX8_settingOf : ByteArray := prog_1_method_30_code
def yX8_settingOf : MethodName := ⟨RX8, "settingOf", "(I)I"⟩
abbrev cX8_placeValue : ByteArray := prog_1_method_31_code
def yX8_placeValue : MethodName := ⟨RX8, "placeValue", "(I)I"⟩
abbrev cX8_displayed : ByteArray := prog_1_method_32_code
def yX8_displayed : MethodName := ⟨RX8, "displayed", "()J"⟩
def RX9 : String := "KeypadWriterModel"
def TX9 : u_T := fun k => match k with
  | 0 => ("KeypadWriterModel", "all", "[I", true)
  | 1 => ("KeypadWriterModel", "saved", "[I", true)
  | 2 => ("KeypadWriterModel", "aside", "[I", true)
  | 3 => ("KeypadWriterModel", "savedMany", "I", false)
  | 4 => ("KeypadWriterModel", "thrown", "I", false)
  | 5 => ("KeypadWriterModel", "shown", "[I", true)
  | 6 => ("KeypadWriterModel", "shownMany", "I", false)
  | 7 => ("KeypadWriterModel", "text", "[I", true)
  | 8 => ("KeypadWriterModel", "textLong", "I", false)
  | _ => ("KeypadWriterModel", "place", "I", false)
def tyX9 : Nat → FieldType := fun k => match k with
  | 0 => .array .int
  | 1 => .array .int
  | 2 => .array .int
  | 3 => .int
  | 4 => .int
  | 5 => .array .int
  | 6 => .int
  | 7 => .array .int
  | 8 => .int
  | _ => .int
abbrev wsX90 : List Cond := u_ws RX9 TX9 10
theorem nmX9 : ∀ a, a < 10 → ∀ b, b < 10 → a ≠ b → (TX9 a).2.1 ≠ (TX9 b).2.1 := by decide +kernel
theorem tyX9_ok : ∀ k, k < 10 → parseFieldDescriptor (TX9 k).2.2.1 = some (tyX9 k) := by decide +kernel
abbrev cX9_init : ByteArray := prog_11_method_1_code
def yX9_init : MethodName := ⟨RX9, "<init>", "()V"⟩
abbrev cX9_thrown : ByteArray := prog_11_method_2_code
def yX9_thrown : MethodName := ⟨RX9, "thrown", "()I"⟩
abbrev cX9_in : ByteArray := prog_11_method_3_code
def yX9_in : MethodName := ⟨RX9, "in", "(JJJ)Z"⟩
abbrev cX9_goes : ByteArray := prog_11_method_4_code
def yX9_goes : MethodName := ⟨RX9, "goes", "(ZZ)Z"⟩
abbrev cX9_save : ByteArray := prog_11_method_5_code
def yX9_save : MethodName := ⟨RX9, "save", "()V"⟩
abbrev cX9_lays : ByteArray := prog_11_method_6_code
def yX9_lays : MethodName := ⟨RX9, "lays", "()V"⟩
abbrev cX9_takesBack : ByteArray := prog_11_method_7_code
def yX9_takesBack : MethodName := ⟨RX9, "takesBack", "()V"⟩
abbrev cX9_keyOf : ByteArray := prog_11_method_8_code
def yX9_keyOf : MethodName := ⟨RX9, "keyOf", "(I)I"⟩
abbrev cX9_firstOf : ByteArray := prog_11_method_9_code
def yX9_firstOf : MethodName := ⟨RX9, "firstOf", "(I)I"⟩
abbrev cX9_lettersOn : ByteArray := prog_11_method_10_code
def yX9_lettersOn : MethodName := ⟨RX9, "lettersOn", "(I)I"⟩
abbrev cX9_nextOn : ByteArray := prog_11_method_11_code
def yX9_nextOn : MethodName := ⟨RX9, "nextOn", "(I)I"⟩
abbrev cX9_at : ByteArray := prog_11_method_12_code
def yX9_at : MethodName := ⟨RX9, "at", "(II)I"⟩
abbrev cX9_of : ByteArray := prog_11_method_13_code
def yX9_of : MethodName := ⟨RX9, "of", "(II)I"⟩
abbrev cX9_letterOf : ByteArray := prog_11_method_14_code
def yX9_letterOf : MethodName := ⟨RX9, "letterOf", "(II)I"⟩
abbrev cX9_isWord : ByteArray := prog_11_method_15_code
def yX9_isWord : MethodName := ⟨RX9, "isWord", "(I)Z"⟩
abbrev cX9_compares : ByteArray := prog_11_method_16_code
def yX9_compares : MethodName := ⟨RX9, "compares", "(II)I"⟩
abbrev cX9_isAhead : ByteArray := prog_11_method_17_code
def yX9_isAhead : MethodName := ⟨RX9, "isAhead", "(II)Z"⟩
abbrev cX9_rankOf : ByteArray := prog_11_method_18_code
def yX9_rankOf : MethodName := ⟨RX9, "rankOf", "(I)I"⟩
abbrev cX9_wordValue : ByteArray := prog_11_method_19_code
def yX9_wordValue : MethodName := ⟨RX9, "wordValue", "(II)I"⟩
abbrev cX9_word : ByteArray := prog_11_method_20_code
def yX9_word : MethodName := ⟨RX9, "word", "(II)I"⟩
abbrev cX9_letter : ByteArray := prog_11_method_21_code
def yX9_letter : MethodName := ⟨RX9, "letter", "(II)I"⟩
abbrev cX9_leaves : ByteArray := prog_11_method_22_code
def yX9_leaves : MethodName := ⟨RX9, "leaves", "(I)V"⟩
abbrev cX9_fits : ByteArray := prog_11_method_23_code
def yX9_fits : MethodName := ⟨RX9, "fits", "(II)Z"⟩
abbrev cX9_groupOf : ByteArray := prog_11_method_24_code
def yX9_groupOf : MethodName := ⟨RX9, "groupOf", "(I)I"⟩
abbrev cX9_candidates : ByteArray := prog_11_method_25_code
def yX9_candidates : MethodName := ⟨RX9, "candidates", "()I"⟩
abbrev cX9_candidateAt : ByteArray := prog_11_method_26_code
def yX9_candidateAt : MethodName := ⟨RX9, "candidateAt", "(I)I"⟩
abbrev cX9_candidate : ByteArray := prog_11_method_27_code
def yX9_candidate : MethodName := ⟨RX9, "candidate", "(I)I"⟩
abbrev cX9_laysDisplay : ByteArray := prog_11_method_28_code
def yX9_laysDisplay : MethodName := ⟨RX9, "laysDisplay", "()V"⟩
abbrev cX9_setWays : ByteArray := prog_11_method_29_code
def yX9_setWays : MethodName := ⟨RX9, "setWays", "(ZI)I"⟩
abbrev cX9_press : ByteArray := prog_11_method_30_code
def yX9_press : MethodName := ⟨RX9, "press", "(I)I"⟩
abbrev cX9_pause : ByteArray := prog_11_method_31_code
def yX9_pause : MethodName := ⟨RX9, "pause", "()I"⟩
abbrev cX9_mode : ByteArray := prog_11_method_32_code
def yX9_mode : MethodName := ⟨RX9, "mode", "(Z)I"⟩
abbrev cX9_next : ByteArray := prog_11_method_33_code
def yX9_next : MethodName := ⟨RX9, "next", "()I"⟩
abbrev cX9_goesFromText : ByteArray := prog_11_method_34_code
def yX9_goesFromText : MethodName := ⟨RX9, "goesFromText", "(I)V"⟩
abbrev cX9_erase : ByteArray := prog_11_method_35_code
def yX9_erase : MethodName := ⟨RX9, "erase", "()I"⟩
abbrev cX9_isShown : ByteArray := prog_11_method_36_code
def yX9_isShown : MethodName := ⟨RX9, "isShown", "(I)Z"⟩
abbrev cX9_shownWord : ByteArray := prog_11_method_37_code
def yX9_shownWord : MethodName := ⟨RX9, "shownWord", "()I"⟩
abbrev cX9_lowestAdded : ByteArray := prog_11_method_38_code
def yX9_lowestAdded : MethodName := ⟨RX9, "lowestAdded", "()I"⟩
abbrev cX9_adds : ByteArray := prog_11_method_39_code
def yX9_adds : MethodName := ⟨RX9, "adds", "(I)V"⟩
abbrev cX9_ages : ByteArray := prog_11_method_40_code
def yX9_ages : MethodName := ⟨RX9, "ages", "()V"⟩
abbrev cX9_uses : ByteArray := prog_11_method_41_code
def yX9_uses : MethodName := ⟨RX9, "uses", "()V"⟩
abbrev cX9_accept : ByteArray := prog_11_method_42_code
def yX9_accept : MethodName := ⟨RX9, "accept", "()I"⟩
abbrev cX9_open : ByteArray := prog_11_method_43_code
def yX9_open : MethodName := ⟨RX9, "open", "(I)I"⟩
abbrev cX9_settingOf : ByteArray := prog_11_method_44_code
def yX9_settingOf : MethodName := ⟨RX9, "settingOf", "(I)I"⟩
abbrev cX9_setting : ByteArray := prog_11_method_45_code
def yX9_setting : MethodName := ⟨RX9, "setting", "(I)I"⟩
abbrev cX9_place : ByteArray := prog_11_method_46_code
def yX9_place : MethodName := ⟨RX9, "place", "(I)I"⟩
abbrev cX9_display : ByteArray := prog_11_method_47_code
def yX9_display : MethodName := ⟨RX9, "display", "(I)I"⟩
abbrev cX9_written : ByteArray := prog_11_method_48_code
def yX9_written : MethodName := ⟨RX9, "written", "(II)I"⟩
abbrev cX9_haveKeys : ByteArray := prog_11_method_49_code
def yX9_haveKeys : MethodName := ⟨RX9, "haveKeys", "(II)Z"⟩
abbrev cX9_stepsOf : ByteArray := prog_11_method_50_code
def yX9_stepsOf : MethodName := ⟨RX9, "stepsOf", "(I)I"⟩
abbrev cX9_steps : ByteArray := prog_11_method_51_code
def yX9_steps : MethodName := ⟨RX9, "steps", "(I)I"⟩
abbrev cX9_pressesOf : ByteArray := prog_11_method_52_code
def yX9_pressesOf : MethodName := ⟨RX9, "pressesOf", "(IZ)I"⟩
abbrev cX9_presses : ByteArray := prog_11_method_53_code
def yX9_presses : MethodName := ⟨RX9, "presses", "(IZ)I"⟩
abbrev cX9_clashing : ByteArray := prog_11_method_54_code
def yX9_clashing : MethodName := ⟨RX9, "clashing", "()I"⟩
abbrev cX9_saving : ByteArray := prog_11_method_55_code
def yX9_saving : MethodName := ⟨RX9, "saving", "()D"⟩
abbrev cX9_isFirst : ByteArray := prog_11_method_56_code
def yX9_isFirst : MethodName := ⟨RX9, "isFirst", "(II)Z"⟩
abbrev cX9_shortest : ByteArray := prog_11_method_57_code
def yX9_shortest : MethodName := ⟨RX9, "shortest", "(I)I"⟩
abbrev cX9_append : ByteArray := prog_11_method_58_code
def yX9_append : MethodName := ⟨RX9, "append", "(I)I"⟩
abbrev cX9_clearText : ByteArray := prog_11_method_59_code
def yX9_clearText : MethodName := ⟨RX9, "clearText", "()I"⟩
abbrev cX9_here : ByteArray := prog_11_method_60_code
def yX9_here : MethodName := ⟨RX9, "here", "()I"⟩
abbrev cX9_passesByte : ByteArray := prog_11_method_61_code
def yX9_passesByte : MethodName := ⟨RX9, "passesByte", "(I)Z"⟩
abbrev cX9_readsWord : ByteArray := prog_11_method_62_code
def yX9_readsWord : MethodName := ⟨RX9, "readsWord", "()Z"⟩
abbrev cX9_readsItem : ByteArray := prog_11_method_63_code
def yX9_readsItem : MethodName := ⟨RX9, "readsItem", "()Z"⟩
abbrev cX9_load : ByteArray := prog_11_method_64_code
def yX9_load : MethodName := ⟨RX9, "load", "()I"⟩
abbrev cX9_undo : ByteArray := prog_11_method_65_code
def yX9_undo : MethodName := ⟨RX9, "undo", "()I"⟩
abbrev cX9_sums : ByteArray := prog_11_method_66_code
def yX9_sums : MethodName := ⟨RX9, "sums", "(JJ)J"⟩
abbrev cX9_withWord : ByteArray := prog_11_method_67_code
def yX9_withWord : MethodName := ⟨RX9, "withWord", "(JI)J"⟩
abbrev cX9_digest : ByteArray := prog_11_method_68_code
def yX9_digest : MethodName := ⟨RX9, "digest", "()J"⟩
def RJ9 : String := "java/lang/Math"
def TJ9 : u_T := fun k => match k with
  | _ => ("", "", "", false)
def tyJ9 : Nat → FieldType := fun k => match k with
  | _ => .int
abbrev wsJ90 : List Cond := u_ws RJ9 TJ9 0
theorem nmJ9 : ∀ a, a < 0 → ∀ b, b < 0 → a ≠ b → (TJ9 a).2.1 ≠ (TJ9 b).2.1 := by decide +kernel
theorem tyJ9_ok : ∀ k, k < 0 → parseFieldDescriptor (TJ9 k).2.2.1 = some (tyJ9 k) := by decide +kernel
abbrev cJ9_min_7cf53 : ByteArray := prog_16_method_69_code
def yJ9_min_7cf53 : MethodName := ⟨RJ9, "min", "(II)I"⟩
def RJ0 : String := "java/lang/String"
def TJ0 : u_T := fun k => match k with
  | _ => ("", "", "", false)
def tyJ0 : Nat → FieldType := fun k => match k with
  | _ => .int
abbrev wsJ00 : List Cond := u_ws RJ0 TJ0 0
theorem nmJ0 : ∀ a, a < 0 → ∀ b, b < 0 → a ≠ b → (TJ0 a).2.1 ≠ (TJ0 b).2.1 := by decide +kernel
theorem tyJ0_ok : ∀ k, k < 0 → parseFieldDescriptor (TJ0 k).2.2.1 = some (tyJ0 k) := by decide +kernel
def RJ10 : String := "java/lang/System"
def TJ10 : u_T := fun k => match k with
  | _ => ("", "", "", false)
def tyJ10 : Nat → FieldType := fun k => match k with
  | _ => .int
abbrev wsJ100 : List Cond := u_ws RJ10 TJ10 0
theorem nmJ10 : ∀ a, a < 0 → ∀ b, b < 0 → a ≠ b → (TJ10 a).2.1 ≠ (TJ10 b).2.1 := by decide +kernel
theorem tyJ10_ok : ∀ k, k < 0 → parseFieldDescriptor (TJ10 k).2.2.1 = some (tyJ10 k) := by decide +kernel
def RL : String := "KeypadWriterLaw"
abbrev cL_append : ByteArray := method_3_code
def yL_append : MethodName := ⟨RL, "append", "(LKeypadWriter;I[J)I"⟩
abbrev cL_setWays : ByteArray := method_4_code
def yL_setWays : MethodName := ⟨RL, "setWays", "(LKeypadWriter;ZI[J)I"⟩
abbrev cL_word : ByteArray := method_5_code
def yL_word : MethodName := ⟨RL, "word", "(LKeypadWriter;II[J)I"⟩
abbrev cL_letter : ByteArray := method_6_code
def yL_letter : MethodName := ⟨RL, "letter", "(LKeypadWriter;II[J)I"⟩
abbrev cL_press : ByteArray := method_7_code
def yL_press : MethodName := ⟨RL, "press", "(LKeypadWriter;I[J)I"⟩
abbrev cL_next : ByteArray := method_8_code
def yL_next : MethodName := ⟨RL, "next", "(LKeypadWriter;[J)I"⟩
abbrev cL_erase : ByteArray := method_9_code
def yL_erase : MethodName := ⟨RL, "erase", "(LKeypadWriter;[J)I"⟩
abbrev cL_accept : ByteArray := method_10_code
def yL_accept : MethodName := ⟨RL, "accept", "(LKeypadWriter;[J)I"⟩
abbrev cL_open : ByteArray := method_11_code
def yL_open : MethodName := ⟨RL, "open", "(LKeypadWriter;I[J)I"⟩
abbrev cL_setting : ByteArray := method_12_code
def yL_setting : MethodName := ⟨RL, "setting", "(LKeypadWriter;I[J)I"⟩
abbrev cL_place : ByteArray := method_13_code
def yL_place : MethodName := ⟨RL, "place", "(LKeypadWriter;I[J)I"⟩
abbrev cL_display : ByteArray := method_14_code
def yL_display : MethodName := ⟨RL, "display", "(LKeypadWriter;I[J)I"⟩
abbrev cL_candidate : ByteArray := method_15_code
def yL_candidate : MethodName := ⟨RL, "candidate", "(LKeypadWriter;I[J)I"⟩
abbrev cL_written : ByteArray := method_16_code
def yL_written : MethodName := ⟨RL, "written", "(LKeypadWriter;II[J)I"⟩
abbrev cL_steps : ByteArray := method_17_code
def yL_steps : MethodName := ⟨RL, "steps", "(LKeypadWriter;I[J)I"⟩
abbrev cL_presses : ByteArray := method_18_code
def yL_presses : MethodName := ⟨RL, "presses", "(LKeypadWriter;IZ[J)I"⟩
abbrev cL_shortest : ByteArray := method_19_code
def yL_shortest : MethodName := ⟨RL, "shortest", "(LKeypadWriter;I[J)I"⟩
abbrev cL_undo : ByteArray := method_20_code
def yL_undo : MethodName := ⟨RL, "undo", "(LKeypadWriter;[J)I"⟩
abbrev cL_law : ByteArray := code
def yL_law : MethodName := ⟨RL, "law", "([I)Z"⟩
abbrev vwCl : List vw_C := [(RX0, TX0, 2), (RX2, TX2, 3), (RX3, TX3, 2), (RX5, TX5, 10), (RX6, TX6, 6), (RX7, TX7, 2), (RX8, TX8, 5), (RX9, TX9, 10)]
end
section
def gx_G : List Cond := lw_tbl.filter goodWord
theorem gx_mem {w : Cond} (i : Nat) (h : lw_tbl[i]? = some w) (hg : goodWord w = true) : w ∈ gx_G := List.mem_filter.mpr ⟨List.mem_of_getElem? h, hg⟩
theorem gx_tb {w : Cond} (h : w ∈ tables_1) (hg : goodWord w = true) : w ∈ gx_G := List.mem_filter.mpr ⟨List.mem_append_right _ h, hg⟩
theorem gx_c1 (w : Cond) (h : w ∈ tables_1_1) (hg : goodWord w = true) : w ∈ gx_G := gx_tb (List.mem_append_left _ h) hg
theorem gx_c2 (w : Cond) (h : w ∈ tables_1_2) (hg : goodWord w = true) : w ∈ gx_G := gx_tb (List.mem_append_right _ (List.mem_append_left _ h)) hg
theorem gx_c3 (w : Cond) (h : w ∈ tables_1_3) (hg : goodWord w = true) : w ∈ gx_G := gx_tb (List.mem_append_right _ (List.mem_append_right _ (List.mem_append_left _ h))) hg
theorem gx_c4 (w : Cond) (h : w ∈ tables_1_4) (hg : goodWord w = true) : w ∈ gx_G := gx_tb (List.mem_append_right _ (List.mem_append_right _ (List.mem_append_right _ (List.mem_append_left _ h)))) hg
theorem gx_c5 (w : Cond) (h : w ∈ tables_1_5) (hg : goodWord w = true) : w ∈ gx_G := gx_tb (List.mem_append_right _ (List.mem_append_right _ (List.mem_append_right _ (List.mem_append_right _ (h))))) hg
theorem gx_sel {q : MethodName × Nat} {w : Cond} (hw : w = Cond.selects q.1.cls q.1 q.1) (h : q ∈ lw_privs) (hg : goodWord w = true) : w ∈ gx_G := List.mem_filter.mpr ⟨List.mem_append_left _ (List.mem_map.mpr ⟨q, h, hw.symm⟩), hg⟩
theorem gw_s0 : Cond.selects "KeypadWriter$ListText" ⟨"KeypadWriter$ListText", "readItem", "(LKeypadWriter$WordList;)Z"⟩ ⟨"KeypadWriter$ListText", "readItem", "(LKeypadWriter$WordList;)Z"⟩ ∈ gx_G := gx_sel (q := (⟨"KeypadWriter$ListText", "readItem", "(LKeypadWriter$WordList;)Z"⟩, 3)) rfl (List.mem_append_left _ (List.mem_of_getElem? (i := 0) rfl)) rfl
theorem gw_s1 : Cond.selects "KeypadWriter$ListText" ⟨"KeypadWriter$ListText", "readWord", "()J"⟩ ⟨"KeypadWriter$ListText", "readWord", "()J"⟩ ∈ gx_G := gx_sel (q := (⟨"KeypadWriter$ListText", "readWord", "()J"⟩, 3)) rfl (List.mem_append_left _ (List.mem_of_getElem? (i := 1) rfl)) rfl
theorem gw_s2 : Cond.selects "KeypadWriter$ListText" ⟨"KeypadWriter$ListText", "isHere", "(II)Z"⟩ ⟨"KeypadWriter$ListText", "isHere", "(II)Z"⟩ ∈ gx_G := gx_sel (q := (⟨"KeypadWriter$ListText", "isHere", "(II)Z"⟩, 3)) rfl (List.mem_append_left _ (List.mem_of_getElem? (i := 2) rfl)) rfl
theorem gw_s3 : Cond.selects "KeypadWriter$ListText" ⟨"KeypadWriter$ListText", "byteHere", "()I"⟩ ⟨"KeypadWriter$ListText", "byteHere", "()I"⟩ ∈ gx_G := gx_sel (q := (⟨"KeypadWriter$ListText", "byteHere", "()I"⟩, 3)) rfl (List.mem_append_left _ (List.mem_of_getElem? (i := 3) rfl)) rfl
theorem gw_s4 : Cond.selects "KeypadWriter$ListText" ⟨"KeypadWriter$ListText", "readCount", "()I"⟩ ⟨"KeypadWriter$ListText", "readCount", "()I"⟩ ∈ gx_G := gx_sel (q := (⟨"KeypadWriter$ListText", "readCount", "()I"⟩, 3)) rfl (List.mem_append_left _ (List.mem_of_getElem? (i := 4) rfl)) rfl
theorem gw_s5 : Cond.selects "KeypadWriter$SavedStates" ⟨"KeypadWriter$SavedStates", "dropOldest", "()V"⟩ ⟨"KeypadWriter$SavedStates", "dropOldest", "()V"⟩ ∈ gx_G := gx_sel (q := (⟨"KeypadWriter$SavedStates", "dropOldest", "()V"⟩, 2)) rfl (List.mem_append_left _ (List.mem_of_getElem? (i := 5) rfl)) rfl
theorem gw_s6 : Cond.selects "KeypadWriter$SavedStates" ⟨"KeypadWriter$SavedStates", "stateAt", "(I)LKeypadWriter$State;"⟩ ⟨"KeypadWriter$SavedStates", "stateAt", "(I)LKeypadWriter$State;"⟩ ∈ gx_G := gx_sel (q := (⟨"KeypadWriter$SavedStates", "stateAt", "(I)LKeypadWriter$State;"⟩, 2)) rfl (List.mem_append_left _ (List.mem_of_getElem? (i := 6) rfl)) rfl
theorem gw_s7 : Cond.selects "KeypadWriter" ⟨"KeypadWriter", "displayed", "()J"⟩ ⟨"KeypadWriter", "displayed", "()J"⟩ ∈ gx_G := gx_sel (q := (⟨"KeypadWriter", "displayed", "()J"⟩, 5)) rfl (List.mem_append_left _ (List.mem_of_getElem? (i := 7) rfl)) rfl
theorem gw_s8 : Cond.selects "KeypadWriter$Candidates" ⟨"KeypadWriter$Candidates", "insert", "(LKeypadWriter$WordList;II)V"⟩ ⟨"KeypadWriter$Candidates", "insert", "(LKeypadWriter$WordList;II)V"⟩ ∈ gx_G := gx_sel (q := (⟨"KeypadWriter$Candidates", "insert", "(LKeypadWriter$WordList;II)V"⟩, 2)) rfl (List.mem_append_left _ (List.mem_of_getElem? (i := 8) rfl)) rfl
theorem gw_s9 : Cond.selects "KeypadWriter$WordList" ⟨"KeypadWriter$WordList", "sharesKeys", "(I)Z"⟩ ⟨"KeypadWriter$WordList", "sharesKeys", "(I)Z"⟩ ∈ gx_G := gx_sel (q := (⟨"KeypadWriter$WordList", "sharesKeys", "(I)Z"⟩, 6)) rfl (List.mem_append_left _ (List.mem_of_getElem? (i := 9) rfl)) rfl
theorem gw_s10 : Cond.selects "KeypadWriter" ⟨"KeypadWriter", "settingOf", "(I)I"⟩ ⟨"KeypadWriter", "settingOf", "(I)I"⟩ ∈ gx_G := gx_sel (q := (⟨"KeypadWriter", "settingOf", "(I)I"⟩, 5)) rfl (List.mem_append_left _ (List.mem_of_getElem? (i := 10) rfl)) rfl
theorem gw_s11 : Cond.selects "KeypadWriter" ⟨"KeypadWriter", "mixedWord", "(JI)J"⟩ ⟨"KeypadWriter", "mixedWord", "(JI)J"⟩ ∈ gx_G := gx_sel (q := (⟨"KeypadWriter", "mixedWord", "(JI)J"⟩, 5)) rfl (List.mem_append_left _ (List.mem_of_getElem? (i := 11) rfl)) rfl
theorem gw_s12 : Cond.selects "KeypadWriter" ⟨"KeypadWriter", "placeValue", "(I)I"⟩ ⟨"KeypadWriter", "placeValue", "(I)I"⟩ ∈ gx_G := gx_sel (q := (⟨"KeypadWriter", "placeValue", "(I)I"⟩, 5)) rfl (List.mem_append_left _ (List.mem_of_getElem? (i := 12) rfl)) rfl
theorem gw_s13 : Cond.selects "java/lang/Throwable" ⟨"java/lang/Throwable", "fillInStackTrace", "(I)Ljava/lang/Throwable;"⟩ ⟨"java/lang/Throwable", "fillInStackTrace", "(I)Ljava/lang/Throwable;"⟩ ∈ gx_G := gx_sel (q := (⟨"java/lang/Throwable", "fillInStackTrace", "(I)Ljava/lang/Throwable;"⟩, 6)) rfl (List.mem_append_left _ (List.mem_of_getElem? (i := 13) rfl)) rfl
theorem gw_s14 : Cond.selects "KeypadWriter$WordList" ⟨"KeypadWriter$WordList", "lastAdded", "()I"⟩ ⟨"KeypadWriter$WordList", "lastAdded", "()I"⟩ ∈ gx_G := gx_sel (q := (⟨"KeypadWriter$WordList", "lastAdded", "()I"⟩, 6)) rfl (List.mem_append_left _ (List.mem_of_getElem? (i := 14) rfl)) rfl
theorem gw_s15 : Cond.selects "KeypadWriterModel" ⟨"KeypadWriterModel", "isWord", "(I)Z"⟩ ⟨"KeypadWriterModel", "isWord", "(I)Z"⟩ ∈ gx_G := gx_sel (q := (⟨"KeypadWriterModel", "isWord", "(I)Z"⟩, 10)) rfl (List.mem_append_left _ (List.mem_of_getElem? (i := 15) rfl)) rfl
theorem gw_s16 : Cond.selects "KeypadWriterModel" ⟨"KeypadWriterModel", "goes", "(ZZ)Z"⟩ ⟨"KeypadWriterModel", "goes", "(ZZ)Z"⟩ ∈ gx_G := gx_sel (q := (⟨"KeypadWriterModel", "goes", "(ZZ)Z"⟩, 10)) rfl (List.mem_append_right _ (List.mem_append_left _ (List.mem_of_getElem? (i := 0) rfl))) rfl
theorem gw_s17 : Cond.selects "KeypadWriterModel" ⟨"KeypadWriterModel", "wordValue", "(II)I"⟩ ⟨"KeypadWriterModel", "wordValue", "(II)I"⟩ ∈ gx_G := gx_sel (q := (⟨"KeypadWriterModel", "wordValue", "(II)I"⟩, 10)) rfl (List.mem_append_right _ (List.mem_append_left _ (List.mem_of_getElem? (i := 1) rfl))) rfl
theorem gw_s18 : Cond.selects "KeypadWriterModel" ⟨"KeypadWriterModel", "rankOf", "(I)I"⟩ ⟨"KeypadWriterModel", "rankOf", "(I)I"⟩ ∈ gx_G := gx_sel (q := (⟨"KeypadWriterModel", "rankOf", "(I)I"⟩, 10)) rfl (List.mem_append_right _ (List.mem_append_left _ (List.mem_of_getElem? (i := 2) rfl))) rfl
theorem gw_s19 : Cond.selects "KeypadWriterModel" ⟨"KeypadWriterModel", "isAhead", "(II)Z"⟩ ⟨"KeypadWriterModel", "isAhead", "(II)Z"⟩ ∈ gx_G := gx_sel (q := (⟨"KeypadWriterModel", "isAhead", "(II)Z"⟩, 10)) rfl (List.mem_append_right _ (List.mem_append_left _ (List.mem_of_getElem? (i := 3) rfl))) rfl
theorem gw_s20 : Cond.selects "KeypadWriterModel" ⟨"KeypadWriterModel", "of", "(II)I"⟩ ⟨"KeypadWriterModel", "of", "(II)I"⟩ ∈ gx_G := gx_sel (q := (⟨"KeypadWriterModel", "of", "(II)I"⟩, 10)) rfl (List.mem_append_right _ (List.mem_append_left _ (List.mem_of_getElem? (i := 4) rfl))) rfl
theorem gw_s21 : Cond.selects "KeypadWriterModel" ⟨"KeypadWriterModel", "compares", "(II)I"⟩ ⟨"KeypadWriterModel", "compares", "(II)I"⟩ ∈ gx_G := gx_sel (q := (⟨"KeypadWriterModel", "compares", "(II)I"⟩, 10)) rfl (List.mem_append_right _ (List.mem_append_left _ (List.mem_of_getElem? (i := 5) rfl))) rfl
theorem gw_s22 : Cond.selects "KeypadWriterModel" ⟨"KeypadWriterModel", "letterOf", "(II)I"⟩ ⟨"KeypadWriterModel", "letterOf", "(II)I"⟩ ∈ gx_G := gx_sel (q := (⟨"KeypadWriterModel", "letterOf", "(II)I"⟩, 10)) rfl (List.mem_append_right _ (List.mem_append_left _ (List.mem_of_getElem? (i := 6) rfl))) rfl
theorem gw_s23 : Cond.selects "KeypadWriterModel" ⟨"KeypadWriterModel", "candidates", "()I"⟩ ⟨"KeypadWriterModel", "candidates", "()I"⟩ ∈ gx_G := gx_sel (q := (⟨"KeypadWriterModel", "candidates", "()I"⟩, 10)) rfl (List.mem_append_right _ (List.mem_append_left _ (List.mem_of_getElem? (i := 7) rfl))) rfl
theorem gw_s24 : Cond.selects "KeypadWriterModel" ⟨"KeypadWriterModel", "groupOf", "(I)I"⟩ ⟨"KeypadWriterModel", "groupOf", "(I)I"⟩ ∈ gx_G := gx_sel (q := (⟨"KeypadWriterModel", "groupOf", "(I)I"⟩, 10)) rfl (List.mem_append_right _ (List.mem_append_left _ (List.mem_of_getElem? (i := 8) rfl))) rfl
theorem gw_s25 : Cond.selects "KeypadWriterModel" ⟨"KeypadWriterModel", "fits", "(II)Z"⟩ ⟨"KeypadWriterModel", "fits", "(II)Z"⟩ ∈ gx_G := gx_sel (q := (⟨"KeypadWriterModel", "fits", "(II)Z"⟩, 10)) rfl (List.mem_append_right _ (List.mem_append_left _ (List.mem_of_getElem? (i := 9) rfl))) rfl
theorem gw_s26 : Cond.selects "KeypadWriterModel" ⟨"KeypadWriterModel", "candidateAt", "(I)I"⟩ ⟨"KeypadWriterModel", "candidateAt", "(I)I"⟩ ∈ gx_G := gx_sel (q := (⟨"KeypadWriterModel", "candidateAt", "(I)I"⟩, 10)) rfl (List.mem_append_right _ (List.mem_append_left _ (List.mem_of_getElem? (i := 10) rfl))) rfl
theorem gw_s27 : Cond.selects "KeypadWriterModel" ⟨"KeypadWriterModel", "save", "()V"⟩ ⟨"KeypadWriterModel", "save", "()V"⟩ ∈ gx_G := gx_sel (q := (⟨"KeypadWriterModel", "save", "()V"⟩, 10)) rfl (List.mem_append_right _ (List.mem_append_left _ (List.mem_of_getElem? (i := 11) rfl))) rfl
theorem gw_s28 : Cond.selects "KeypadWriterModel" ⟨"KeypadWriterModel", "laysDisplay", "()V"⟩ ⟨"KeypadWriterModel", "laysDisplay", "()V"⟩ ∈ gx_G := gx_sel (q := (⟨"KeypadWriterModel", "laysDisplay", "()V"⟩, 10)) rfl (List.mem_append_right _ (List.mem_append_left _ (List.mem_of_getElem? (i := 12) rfl))) rfl
theorem gw_s29 : Cond.selects "KeypadWriterModel" ⟨"KeypadWriterModel", "goesFromText", "(I)V"⟩ ⟨"KeypadWriterModel", "goesFromText", "(I)V"⟩ ∈ gx_G := gx_sel (q := (⟨"KeypadWriterModel", "goesFromText", "(I)V"⟩, 10)) rfl (List.mem_append_right _ (List.mem_append_left _ (List.mem_of_getElem? (i := 13) rfl))) rfl
theorem gw_s30 : Cond.selects "KeypadWriterModel" ⟨"KeypadWriterModel", "uses", "()V"⟩ ⟨"KeypadWriterModel", "uses", "()V"⟩ ∈ gx_G := gx_sel (q := (⟨"KeypadWriterModel", "uses", "()V"⟩, 10)) rfl (List.mem_append_right _ (List.mem_append_left _ (List.mem_of_getElem? (i := 14) rfl))) rfl
theorem gw_s31 : Cond.selects "KeypadWriterModel" ⟨"KeypadWriterModel", "shownWord", "()I"⟩ ⟨"KeypadWriterModel", "shownWord", "()I"⟩ ∈ gx_G := gx_sel (q := (⟨"KeypadWriterModel", "shownWord", "()I"⟩, 10)) rfl (List.mem_append_right _ (List.mem_append_left _ (List.mem_of_getElem? (i := 15) rfl))) rfl
theorem gw_s32 : Cond.selects "KeypadWriterModel" ⟨"KeypadWriterModel", "isShown", "(I)Z"⟩ ⟨"KeypadWriterModel", "isShown", "(I)Z"⟩ ∈ gx_G := gx_sel (q := (⟨"KeypadWriterModel", "isShown", "(I)Z"⟩, 10)) rfl (List.mem_append_right _ (List.mem_append_right _ (List.mem_append_left _ (List.mem_of_getElem? (i := 0) rfl)))) rfl
theorem gw_s33 : Cond.selects "KeypadWriterModel" ⟨"KeypadWriterModel", "adds", "(I)V"⟩ ⟨"KeypadWriterModel", "adds", "(I)V"⟩ ∈ gx_G := gx_sel (q := (⟨"KeypadWriterModel", "adds", "(I)V"⟩, 10)) rfl (List.mem_append_right _ (List.mem_append_right _ (List.mem_append_left _ (List.mem_of_getElem? (i := 1) rfl)))) rfl
theorem gw_s34 : Cond.selects "KeypadWriterModel" ⟨"KeypadWriterModel", "lowestAdded", "()I"⟩ ⟨"KeypadWriterModel", "lowestAdded", "()I"⟩ ∈ gx_G := gx_sel (q := (⟨"KeypadWriterModel", "lowestAdded", "()I"⟩, 10)) rfl (List.mem_append_right _ (List.mem_append_right _ (List.mem_append_left _ (List.mem_of_getElem? (i := 2) rfl)))) rfl
theorem gw_s35 : Cond.selects "KeypadWriterModel" ⟨"KeypadWriterModel", "leaves", "(I)V"⟩ ⟨"KeypadWriterModel", "leaves", "(I)V"⟩ ∈ gx_G := gx_sel (q := (⟨"KeypadWriterModel", "leaves", "(I)V"⟩, 10)) rfl (List.mem_append_right _ (List.mem_append_right _ (List.mem_append_left _ (List.mem_of_getElem? (i := 3) rfl)))) rfl
theorem gw_s36 : Cond.selects "KeypadWriterModel" ⟨"KeypadWriterModel", "ages", "()V"⟩ ⟨"KeypadWriterModel", "ages", "()V"⟩ ∈ gx_G := gx_sel (q := (⟨"KeypadWriterModel", "ages", "()V"⟩, 10)) rfl (List.mem_append_right _ (List.mem_append_right _ (List.mem_append_left _ (List.mem_of_getElem? (i := 4) rfl)))) rfl
theorem gw_s37 : Cond.selects "KeypadWriterModel" ⟨"KeypadWriterModel", "settingOf", "(I)I"⟩ ⟨"KeypadWriterModel", "settingOf", "(I)I"⟩ ∈ gx_G := gx_sel (q := (⟨"KeypadWriterModel", "settingOf", "(I)I"⟩, 10)) rfl (List.mem_append_right _ (List.mem_append_right _ (List.mem_append_left _ (List.mem_of_getElem? (i := 5) rfl)))) rfl
theorem gw_s38 : Cond.selects "KeypadWriterModel" ⟨"KeypadWriterModel", "stepsOf", "(I)I"⟩ ⟨"KeypadWriterModel", "stepsOf", "(I)I"⟩ ∈ gx_G := gx_sel (q := (⟨"KeypadWriterModel", "stepsOf", "(I)I"⟩, 10)) rfl (List.mem_append_right _ (List.mem_append_right _ (List.mem_append_left _ (List.mem_of_getElem? (i := 6) rfl)))) rfl
theorem gw_s39 : Cond.selects "KeypadWriterModel" ⟨"KeypadWriterModel", "haveKeys", "(II)Z"⟩ ⟨"KeypadWriterModel", "haveKeys", "(II)Z"⟩ ∈ gx_G := gx_sel (q := (⟨"KeypadWriterModel", "haveKeys", "(II)Z"⟩, 10)) rfl (List.mem_append_right _ (List.mem_append_right _ (List.mem_append_left _ (List.mem_of_getElem? (i := 7) rfl)))) rfl
theorem gw_s40 : Cond.selects "KeypadWriterModel" ⟨"KeypadWriterModel", "pressesOf", "(IZ)I"⟩ ⟨"KeypadWriterModel", "pressesOf", "(IZ)I"⟩ ∈ gx_G := gx_sel (q := (⟨"KeypadWriterModel", "pressesOf", "(IZ)I"⟩, 10)) rfl (List.mem_append_right _ (List.mem_append_right _ (List.mem_append_left _ (List.mem_of_getElem? (i := 8) rfl)))) rfl
theorem gw_s41 : Cond.selects "KeypadWriterModel" ⟨"KeypadWriterModel", "isFirst", "(II)Z"⟩ ⟨"KeypadWriterModel", "isFirst", "(II)Z"⟩ ∈ gx_G := gx_sel (q := (⟨"KeypadWriterModel", "isFirst", "(II)Z"⟩, 10)) rfl (List.mem_append_right _ (List.mem_append_right _ (List.mem_append_left _ (List.mem_of_getElem? (i := 9) rfl)))) rfl
theorem gw_s42 : Cond.selects "KeypadWriterModel" ⟨"KeypadWriterModel", "lays", "()V"⟩ ⟨"KeypadWriterModel", "lays", "()V"⟩ ∈ gx_G := gx_sel (q := (⟨"KeypadWriterModel", "lays", "()V"⟩, 10)) rfl (List.mem_append_right _ (List.mem_append_right _ (List.mem_append_left _ (List.mem_of_getElem? (i := 10) rfl)))) rfl
theorem gw_s43 : Cond.selects "KeypadWriterModel" ⟨"KeypadWriterModel", "readsItem", "()Z"⟩ ⟨"KeypadWriterModel", "readsItem", "()Z"⟩ ∈ gx_G := gx_sel (q := (⟨"KeypadWriterModel", "readsItem", "()Z"⟩, 10)) rfl (List.mem_append_right _ (List.mem_append_right _ (List.mem_append_left _ (List.mem_of_getElem? (i := 11) rfl)))) rfl
theorem gw_s44 : Cond.selects "KeypadWriterModel" ⟨"KeypadWriterModel", "readsWord", "()Z"⟩ ⟨"KeypadWriterModel", "readsWord", "()Z"⟩ ∈ gx_G := gx_sel (q := (⟨"KeypadWriterModel", "readsWord", "()Z"⟩, 10)) rfl (List.mem_append_right _ (List.mem_append_right _ (List.mem_append_left _ (List.mem_of_getElem? (i := 12) rfl)))) rfl
theorem gw_s45 : Cond.selects "KeypadWriterModel" ⟨"KeypadWriterModel", "here", "()I"⟩ ⟨"KeypadWriterModel", "here", "()I"⟩ ∈ gx_G := gx_sel (q := (⟨"KeypadWriterModel", "here", "()I"⟩, 10)) rfl (List.mem_append_right _ (List.mem_append_right _ (List.mem_append_left _ (List.mem_of_getElem? (i := 13) rfl)))) rfl
theorem gw_s46 : Cond.selects "KeypadWriterModel" ⟨"KeypadWriterModel", "passesByte", "(I)Z"⟩ ⟨"KeypadWriterModel", "passesByte", "(I)Z"⟩ ∈ gx_G := gx_sel (q := (⟨"KeypadWriterModel", "passesByte", "(I)Z"⟩, 10)) rfl (List.mem_append_right _ (List.mem_append_right _ (List.mem_append_left _ (List.mem_of_getElem? (i := 14) rfl)))) rfl
theorem gw_s47 : Cond.selects "KeypadWriterModel" ⟨"KeypadWriterModel", "takesBack", "()V"⟩ ⟨"KeypadWriterModel", "takesBack", "()V"⟩ ∈ gx_G := gx_sel (q := (⟨"KeypadWriterModel", "takesBack", "()V"⟩, 10)) rfl (List.mem_append_right _ (List.mem_append_right _ (List.mem_append_left _ (List.mem_of_getElem? (i := 15) rfl)))) rfl
theorem gw_s48 : Cond.selects "KeypadWriterModel" ⟨"KeypadWriterModel", "withWord", "(JI)J"⟩ ⟨"KeypadWriterModel", "withWord", "(JI)J"⟩ ∈ gx_G := gx_sel (q := (⟨"KeypadWriterModel", "withWord", "(JI)J"⟩, 10)) rfl (List.mem_append_right _ (List.mem_append_right _ (List.mem_append_right _ (List.mem_of_getElem? (i := 0) rfl)))) rfl
theorem gw_0 : Cond.initialized "KeypadWriterLaw" ∈ gx_G := gx_c1 _ (List.mem_of_getElem? (i := 0) rfl) rfl
theorem gw_1 : Cond.initialized "KeypadWriter" ∈ gx_G := gx_c1 _ (List.mem_of_getElem? (i := 1) rfl) rfl
theorem gw_2 : Cond.initialized "KeypadWriter$ListText" ∈ gx_G := gx_c1 _ (List.mem_of_getElem? (i := 2) rfl) rfl
theorem gw_3 : Cond.initialized "KeypadWriter$WordList" ∈ gx_G := gx_c1 _ (List.mem_of_getElem? (i := 3) rfl) rfl
theorem gw_4 : Cond.initialized "KeypadWriter$State" ∈ gx_G := gx_c1 _ (List.mem_of_getElem? (i := 4) rfl) rfl
theorem gw_5 : Cond.initialized "KeypadWriter$WrittenText" ∈ gx_G := gx_c1 _ (List.mem_of_getElem? (i := 5) rfl) rfl
theorem gw_6 : Cond.initialized "KeypadWriter$SavedStates" ∈ gx_G := gx_c1 _ (List.mem_of_getElem? (i := 6) rfl) rfl
theorem gw_7 : Cond.initialized "KeypadWriter$Candidates" ∈ gx_G := gx_c1 _ (List.mem_of_getElem? (i := 7) rfl) rfl
theorem gw_8 : Cond.initialized "KeypadWriterModel" ∈ gx_G := gx_c1 _ (List.mem_of_getElem? (i := 8) rfl) rfl
theorem gw_9 : Cond.initialized "java/lang/Throwable" ∈ gx_G := gx_c1 _ (List.mem_of_getElem? (i := 9) rfl) rfl
theorem gw_10 : Cond.initialized "java/lang/Exception" ∈ gx_G := gx_c1 _ (List.mem_of_getElem? (i := 10) rfl) rfl
theorem gw_11 : Cond.initialized "java/lang/RuntimeException" ∈ gx_G := gx_c1 _ (List.mem_of_getElem? (i := 11) rfl) rfl
theorem gw_12 : Cond.initialized "java/lang/IllegalArgumentException" ∈ gx_G := gx_c1 _ (List.mem_of_getElem? (i := 12) rfl) rfl
theorem gw_13 : Cond.initialized "java/lang/IllegalStateException" ∈ gx_G := gx_c1 _ (List.mem_of_getElem? (i := 13) rfl) rfl
theorem gw_14 : Cond.initialized "KeypadWriter$Slots" ∈ gx_G := gx_c1 _ (List.mem_of_getElem? (i := 14) rfl) rfl
theorem gw_15 : Cond.initialized "KeypadWriter$Keys" ∈ gx_G := gx_c1 _ (List.mem_of_getElem? (i := 15) rfl) rfl
theorem gw_16 : Cond.initialized "java/lang/System" ∈ gx_G := gx_c1 _ (List.mem_of_getElem? (i := 16) rfl) rfl
theorem gw_17 : Cond.initialized "java/lang/IndexOutOfBoundsException" ∈ gx_G := gx_c1 _ (List.mem_of_getElem? (i := 17) rfl) rfl
theorem gw_18 : Cond.initialized "java/lang/Math" ∈ gx_G := gx_c1 _ (List.mem_of_getElem? (i := 18) rfl) rfl
theorem gw_19 : Cond.classLink "KeypadWriterLaw" 8 "KeypadWriter" ∈ gx_G := gx_c1 _ (List.mem_of_getElem? (i := 19) rfl) rfl
theorem gw_20 : Cond.instantiable "KeypadWriter" 5 ∈ gx_G := gx_c1 _ (List.mem_of_getElem? (i := 20) rfl) rfl
theorem gw_21 : Cond.methodLink "KeypadWriterLaw" 74 ⟨"KeypadWriter", "<init>", "()V"⟩ ∈ gx_G := gx_c1 _ (List.mem_of_getElem? (i := 21) rfl) rfl
theorem gw_22 : Cond.instanceMethod ⟨"KeypadWriter", "<init>", "()V"⟩ ∈ gx_G := gx_c1 _ (List.mem_of_getElem? (i := 22) rfl) rfl
theorem gw_23 : Cond.code ⟨"KeypadWriter", "<init>", "()V"⟩ prog_1_method_1_code 1 none ∈ gx_G := gx_c1 _ (List.mem_of_getElem? (i := 23) rfl) rfl
theorem gw_24 : Cond.methodLink "KeypadWriter" 1 ⟨"java/lang/Object", "<init>", "()V"⟩ ∈ gx_G := gx_c1 _ (List.mem_of_getElem? (i := 24) rfl) rfl
theorem gw_25 : Cond.instanceMethod ⟨"java/lang/Object", "<init>", "()V"⟩ ∈ gx_G := gx_c1 _ (List.mem_of_getElem? (i := 25) rfl) rfl
theorem gw_26 : Cond.code ⟨"java/lang/Object", "<init>", "()V"⟩ object_method_1_code 1 none ∈ gx_G := gx_c1 _ (List.mem_of_getElem? (i := 26) rfl) rfl
theorem gw_27 : Cond.classLink "KeypadWriter" 7 "KeypadWriter$ListText" ∈ gx_G := gx_c1 _ (List.mem_of_getElem? (i := 27) rfl) rfl
theorem gw_28 : Cond.instantiable "KeypadWriter$ListText" 3 ∈ gx_G := gx_c1 _ (List.mem_of_getElem? (i := 28) rfl) rfl
theorem gw_30 : Cond.instanceMethod ⟨"KeypadWriter$ListText", "<init>", "()V"⟩ ∈ gx_G := gx_c1 _ (List.mem_of_getElem? (i := 30) rfl) rfl
theorem gw_31 : Cond.code ⟨"KeypadWriter$ListText", "<init>", "()V"⟩ prog_4_method_1_code 1 none ∈ gx_G := gx_c1 _ (List.mem_of_getElem? (i := 31) rfl) rfl
theorem gw_32 : Cond.methodLink "KeypadWriter$ListText" 3 ⟨"java/lang/Object", "<init>", "()V"⟩ ∈ gx_G := gx_c1 _ (List.mem_of_getElem? (i := 32) rfl) rfl
theorem gw_33 : Cond.fieldLink "KeypadWriter$ListText" 9 "KeypadWriter$ListText" "bytes" "[I" ∈ gx_G := gx_c1 _ (List.mem_of_getElem? (i := 33) rfl) rfl
theorem gw_34 : Cond.fieldLink "KeypadWriter$ListText" 15 "KeypadWriter$ListText" "length" "I" ∈ gx_G := gx_c1 _ (List.mem_of_getElem? (i := 34) rfl) rfl
theorem gw_36 : Cond.fieldLink "KeypadWriter$ListText" 28 "KeypadWriter$ListText" "position" "I" ∈ gx_G := gx_c1 _ (List.mem_of_getElem? (i := 36) rfl) rfl
theorem gw_37 : Cond.laysFinal "KeypadWriter$ListText" "KeypadWriter$ListText" "bytes" "[I" ∈ gx_G := gx_c1 _ (List.mem_of_getElem? (i := 37) rfl) rfl
theorem gw_38 : Cond.soleField "KeypadWriter$ListText" "bytes" ∈ gx_G := gx_c1 _ (List.mem_of_getElem? (i := 38) rfl) rfl
theorem gw_39 : Cond.lays "KeypadWriter$ListText" "KeypadWriter$ListText" "length" "I" ∈ gx_G := gx_c1 _ (List.mem_of_getElem? (i := 39) rfl) rfl
theorem gw_40 : Cond.soleField "KeypadWriter$ListText" "length" ∈ gx_G := gx_c1 _ (List.mem_of_getElem? (i := 40) rfl) rfl
theorem gw_41 : Cond.lays "KeypadWriter$ListText" "KeypadWriter$ListText" "position" "I" ∈ gx_G := gx_c1 _ (List.mem_of_getElem? (i := 41) rfl) rfl
theorem gw_42 : Cond.soleField "KeypadWriter$ListText" "position" ∈ gx_G := gx_c1 _ (List.mem_of_getElem? (i := 42) rfl) rfl
theorem gw_43 : Cond.superclass "KeypadWriter$ListText" "java/lang/Object" ∈ gx_G := gx_c1 _ (List.mem_of_getElem? (i := 43) rfl) rfl
theorem gw_44 : Cond.arrayClass FieldType.int ∈ gx_G := gx_c1 _ (List.mem_of_getElem? (i := 44) rfl) rfl
theorem gw_45 : Cond.classLink "KeypadWriter" 16 "KeypadWriter$WordList" ∈ gx_G := gx_c1 _ (List.mem_of_getElem? (i := 45) rfl) rfl
theorem gw_46 : Cond.instantiable "KeypadWriter$WordList" 6 ∈ gx_G := gx_c1 _ (List.mem_of_getElem? (i := 46) rfl) rfl
theorem gw_48 : Cond.instanceMethod ⟨"KeypadWriter$WordList", "<init>", "()V"⟩ ∈ gx_G := gx_c1 _ (List.mem_of_getElem? (i := 48) rfl) rfl
theorem gw_49 : Cond.code ⟨"KeypadWriter$WordList", "<init>", "()V"⟩ prog_8_method_1_code 1 none ∈ gx_G := gx_c1 _ (List.mem_of_getElem? (i := 49) rfl) rfl
theorem gw_50 : Cond.methodLink "KeypadWriter$WordList" 3 ⟨"java/lang/Object", "<init>", "()V"⟩ ∈ gx_G := gx_c1 _ (List.mem_of_getElem? (i := 50) rfl) rfl
theorem gw_51 : Cond.fieldLink "KeypadWriter$WordList" 9 "KeypadWriter$WordList" "words" "[J" ∈ gx_G := gx_c1 _ (List.mem_of_getElem? (i := 51) rfl) rfl
theorem gw_52 : Cond.fieldLink "KeypadWriter$WordList" 15 "KeypadWriter$WordList" "keys" "[J" ∈ gx_G := gx_c1 _ (List.mem_of_getElem? (i := 52) rfl) rfl
theorem gw_53 : Cond.fieldLink "KeypadWriter$WordList" 18 "KeypadWriter$WordList" "counts" "[I" ∈ gx_G := gx_c1 _ (List.mem_of_getElem? (i := 53) rfl) rfl
theorem gw_54 : Cond.fieldLink "KeypadWriter$WordList" 22 "KeypadWriter$WordList" "times" "[I" ∈ gx_G := gx_c1 _ (List.mem_of_getElem? (i := 54) rfl) rfl
theorem gw_55 : Cond.fieldLink "KeypadWriter$WordList" 25 "KeypadWriter$WordList" "added" "[Z" ∈ gx_G := gx_c1 _ (List.mem_of_getElem? (i := 55) rfl) rfl
theorem gw_56 : Cond.fieldLink "KeypadWriter$WordList" 29 "KeypadWriter$WordList" "size" "I" ∈ gx_G := gx_c1 _ (List.mem_of_getElem? (i := 56) rfl) rfl
theorem gw_59 : Cond.laysFinal "KeypadWriter$WordList" "KeypadWriter$WordList" "words" "[J" ∈ gx_G := gx_c1 _ (List.mem_of_getElem? (i := 59) rfl) rfl
theorem gw_60 : Cond.soleField "KeypadWriter$WordList" "words" ∈ gx_G := gx_c1 _ (List.mem_of_getElem? (i := 60) rfl) rfl
theorem gw_61 : Cond.laysFinal "KeypadWriter$WordList" "KeypadWriter$WordList" "keys" "[J" ∈ gx_G := gx_c1 _ (List.mem_of_getElem? (i := 61) rfl) rfl
theorem gw_62 : Cond.soleField "KeypadWriter$WordList" "keys" ∈ gx_G := gx_c1 _ (List.mem_of_getElem? (i := 62) rfl) rfl
theorem gw_63 : Cond.laysFinal "KeypadWriter$WordList" "KeypadWriter$WordList" "counts" "[I" ∈ gx_G := gx_c1 _ (List.mem_of_getElem? (i := 63) rfl) rfl
theorem gw_64 : Cond.soleField "KeypadWriter$WordList" "counts" ∈ gx_G := gx_c1 _ (List.mem_of_getElem? (i := 64) rfl) rfl
theorem gw_65 : Cond.laysFinal "KeypadWriter$WordList" "KeypadWriter$WordList" "times" "[I" ∈ gx_G := gx_c1 _ (List.mem_of_getElem? (i := 65) rfl) rfl
theorem gw_66 : Cond.soleField "KeypadWriter$WordList" "times" ∈ gx_G := gx_c1 _ (List.mem_of_getElem? (i := 66) rfl) rfl
theorem gw_67 : Cond.laysFinal "KeypadWriter$WordList" "KeypadWriter$WordList" "added" "[Z" ∈ gx_G := gx_c1 _ (List.mem_of_getElem? (i := 67) rfl) rfl
theorem gw_68 : Cond.soleField "KeypadWriter$WordList" "added" ∈ gx_G := gx_c1 _ (List.mem_of_getElem? (i := 68) rfl) rfl
theorem gw_69 : Cond.lays "KeypadWriter$WordList" "KeypadWriter$WordList" "size" "I" ∈ gx_G := gx_c1 _ (List.mem_of_getElem? (i := 69) rfl) rfl
theorem gw_70 : Cond.soleField "KeypadWriter$WordList" "size" ∈ gx_G := gx_c1 _ (List.mem_of_getElem? (i := 70) rfl) rfl
theorem gw_71 : Cond.superclass "KeypadWriter$WordList" "java/lang/Object" ∈ gx_G := gx_c1 _ (List.mem_of_getElem? (i := 71) rfl) rfl
theorem gw_72 : Cond.arrayClass FieldType.long ∈ gx_G := gx_c1 _ (List.mem_of_getElem? (i := 72) rfl) rfl
theorem gw_73 : Cond.arrayClass FieldType.boolean ∈ gx_G := gx_c1 _ (List.mem_of_getElem? (i := 73) rfl) rfl
theorem gw_74 : Cond.classLink "KeypadWriter" 23 "KeypadWriter$State" ∈ gx_G := gx_c1 _ (List.mem_of_getElem? (i := 74) rfl) rfl
theorem gw_75 : Cond.instantiable "KeypadWriter$State" 10 ∈ gx_G := gx_c1 _ (List.mem_of_getElem? (i := 75) rfl) rfl
theorem gw_77 : Cond.instanceMethod ⟨"KeypadWriter$State", "<init>", "()V"⟩ ∈ gx_G := gx_c1 _ (List.mem_of_getElem? (i := 77) rfl) rfl
theorem gw_78 : Cond.code ⟨"KeypadWriter$State", "<init>", "()V"⟩ prog_7_method_1_code 1 none ∈ gx_G := gx_c1 _ (List.mem_of_getElem? (i := 78) rfl) rfl
theorem gw_79 : Cond.methodLink "KeypadWriter$State" 3 ⟨"java/lang/Object", "<init>", "()V"⟩ ∈ gx_G := gx_c1 _ (List.mem_of_getElem? (i := 79) rfl) rfl
theorem gw_80 : Cond.classLink "KeypadWriter$State" 9 "KeypadWriter$WordList" ∈ gx_G := gx_c1 _ (List.mem_of_getElem? (i := 80) rfl) rfl
theorem gw_82 : Cond.classLink "KeypadWriter$State" 18 "KeypadWriter$WrittenText" ∈ gx_G := gx_c1 _ (List.mem_of_getElem? (i := 82) rfl) rfl
theorem gw_83 : Cond.instantiable "KeypadWriter$WrittenText" 2 ∈ gx_G := gx_c1 _ (List.mem_of_getElem? (i := 83) rfl) rfl
theorem gw_85 : Cond.instanceMethod ⟨"KeypadWriter$WrittenText", "<init>", "()V"⟩ ∈ gx_G := gx_c1 _ (List.mem_of_getElem? (i := 85) rfl) rfl
theorem gw_86 : Cond.code ⟨"KeypadWriter$WrittenText", "<init>", "()V"⟩ prog_9_method_1_code 1 none ∈ gx_G := gx_c1 _ (List.mem_of_getElem? (i := 86) rfl) rfl
theorem gw_87 : Cond.methodLink "KeypadWriter$WrittenText" 3 ⟨"java/lang/Object", "<init>", "()V"⟩ ∈ gx_G := gx_c1 _ (List.mem_of_getElem? (i := 87) rfl) rfl
theorem gw_88 : Cond.fieldLink "KeypadWriter$WrittenText" 9 "KeypadWriter$WrittenText" "words" "[J" ∈ gx_G := gx_c1 _ (List.mem_of_getElem? (i := 88) rfl) rfl
theorem gw_89 : Cond.fieldLink "KeypadWriter$WrittenText" 21 "KeypadWriter$WrittenText" "size" "I" ∈ gx_G := gx_c1 _ (List.mem_of_getElem? (i := 89) rfl) rfl
theorem gw_91 : Cond.laysFinal "KeypadWriter$WrittenText" "KeypadWriter$WrittenText" "words" "[J" ∈ gx_G := gx_c1 _ (List.mem_of_getElem? (i := 91) rfl) rfl
theorem gw_92 : Cond.soleField "KeypadWriter$WrittenText" "words" ∈ gx_G := gx_c1 _ (List.mem_of_getElem? (i := 92) rfl) rfl
theorem gw_93 : Cond.lays "KeypadWriter$WrittenText" "KeypadWriter$WrittenText" "size" "I" ∈ gx_G := gx_c1 _ (List.mem_of_getElem? (i := 93) rfl) rfl
theorem gw_94 : Cond.soleField "KeypadWriter$WrittenText" "size" ∈ gx_G := gx_c1 _ (List.mem_of_getElem? (i := 94) rfl) rfl
theorem gw_95 : Cond.superclass "KeypadWriter$WrittenText" "java/lang/Object" ∈ gx_G := gx_c1 _ (List.mem_of_getElem? (i := 95) rfl) rfl
theorem gw_96 : Cond.fieldLink "KeypadWriter$State" 12 "KeypadWriter$State" "list" "LKeypadWriter$WordList;" ∈ gx_G := gx_c1 _ (List.mem_of_getElem? (i := 96) rfl) rfl
theorem gw_99 : Cond.fieldLink "KeypadWriter$State" 21 "KeypadWriter$State" "text" "LKeypadWriter$WrittenText;" ∈ gx_G := gx_c1 _ (List.mem_of_getElem? (i := 99) rfl) rfl
theorem gw_101 : Cond.fieldLink "KeypadWriter$State" 48 "KeypadWriter$State" "clock" "I" ∈ gx_G := gx_c1 _ (List.mem_of_getElem? (i := 101) rfl) rfl
theorem gw_103 : Cond.fieldLink "KeypadWriter$State" 25 "KeypadWriter$State" "ageing" "I" ∈ gx_G := gx_c1 _ (List.mem_of_getElem? (i := 103) rfl) rfl
theorem gw_105 : Cond.fieldLink "KeypadWriter$State" 51 "KeypadWriter$State" "completing" "Z" ∈ gx_G := gx_c1 _ (List.mem_of_getElem? (i := 105) rfl) rfl
theorem gw_108 : Cond.fieldLink "KeypadWriter$State" 55 "KeypadWriter$State" "tapping" "Z" ∈ gx_G := gx_c1 _ (List.mem_of_getElem? (i := 108) rfl) rfl
theorem gw_110 : Cond.fieldLink "KeypadWriter$State" 29 "KeypadWriter$State" "pending" "I" ∈ gx_G := gx_c1 _ (List.mem_of_getElem? (i := 110) rfl) rfl
theorem gw_112 : Cond.fieldLink "KeypadWriter$State" 34 "KeypadWriter$State" "present" "J" ∈ gx_G := gx_c1 _ (List.mem_of_getElem? (i := 112) rfl) rfl
theorem gw_115 : Cond.fieldLink "KeypadWriter$State" 58 "KeypadWriter$State" "chosen" "I" ∈ gx_G := gx_c1 _ (List.mem_of_getElem? (i := 115) rfl) rfl
theorem gw_117 : Cond.fieldLink "KeypadWriter$State" 38 "KeypadWriter$State" "opened" "I" ∈ gx_G := gx_c1 _ (List.mem_of_getElem? (i := 117) rfl) rfl
theorem gw_119 : Cond.laysFinal "KeypadWriter$State" "KeypadWriter$State" "list" "LKeypadWriter$WordList;" ∈ gx_G := gx_c1 _ (List.mem_of_getElem? (i := 119) rfl) rfl
theorem gw_120 : Cond.soleField "KeypadWriter$State" "list" ∈ gx_G := gx_c1 _ (List.mem_of_getElem? (i := 120) rfl) rfl
theorem gw_121 : Cond.laysFinal "KeypadWriter$State" "KeypadWriter$State" "text" "LKeypadWriter$WrittenText;" ∈ gx_G := gx_c1 _ (List.mem_of_getElem? (i := 121) rfl) rfl
theorem gw_122 : Cond.soleField "KeypadWriter$State" "text" ∈ gx_G := gx_c1 _ (List.mem_of_getElem? (i := 122) rfl) rfl
theorem gw_123 : Cond.lays "KeypadWriter$State" "KeypadWriter$State" "clock" "I" ∈ gx_G := gx_c1 _ (List.mem_of_getElem? (i := 123) rfl) rfl
theorem gw_124 : Cond.soleField "KeypadWriter$State" "clock" ∈ gx_G := gx_c1 _ (List.mem_of_getElem? (i := 124) rfl) rfl
theorem gw_125 : Cond.lays "KeypadWriter$State" "KeypadWriter$State" "ageing" "I" ∈ gx_G := gx_c1 _ (List.mem_of_getElem? (i := 125) rfl) rfl
theorem gw_126 : Cond.soleField "KeypadWriter$State" "ageing" ∈ gx_G := gx_c1 _ (List.mem_of_getElem? (i := 126) rfl) rfl
theorem gw_127 : Cond.lays "KeypadWriter$State" "KeypadWriter$State" "completing" "Z" ∈ gx_G := gx_c1 _ (List.mem_of_getElem? (i := 127) rfl) rfl
theorem gw_128 : Cond.soleField "KeypadWriter$State" "completing" ∈ gx_G := gx_c1 _ (List.mem_of_getElem? (i := 128) rfl) rfl
theorem gw_129 : Cond.lays "KeypadWriter$State" "KeypadWriter$State" "tapping" "Z" ∈ gx_G := gx_c1 _ (List.mem_of_getElem? (i := 129) rfl) rfl
theorem gw_130 : Cond.soleField "KeypadWriter$State" "tapping" ∈ gx_G := gx_c1 _ (List.mem_of_getElem? (i := 130) rfl) rfl
theorem gw_131 : Cond.lays "KeypadWriter$State" "KeypadWriter$State" "pending" "I" ∈ gx_G := gx_c1 _ (List.mem_of_getElem? (i := 131) rfl) rfl
theorem gw_132 : Cond.soleField "KeypadWriter$State" "pending" ∈ gx_G := gx_c1 _ (List.mem_of_getElem? (i := 132) rfl) rfl
theorem gw_133 : Cond.lays "KeypadWriter$State" "KeypadWriter$State" "present" "J" ∈ gx_G := gx_c1 _ (List.mem_of_getElem? (i := 133) rfl) rfl
theorem gw_134 : Cond.soleField "KeypadWriter$State" "present" ∈ gx_G := gx_c1 _ (List.mem_of_getElem? (i := 134) rfl) rfl
theorem gw_135 : Cond.lays "KeypadWriter$State" "KeypadWriter$State" "chosen" "I" ∈ gx_G := gx_c1 _ (List.mem_of_getElem? (i := 135) rfl) rfl
theorem gw_136 : Cond.soleField "KeypadWriter$State" "chosen" ∈ gx_G := gx_c1 _ (List.mem_of_getElem? (i := 136) rfl) rfl
theorem gw_137 : Cond.lays "KeypadWriter$State" "KeypadWriter$State" "opened" "I" ∈ gx_G := gx_c1 _ (List.mem_of_getElem? (i := 137) rfl) rfl
theorem gw_138 : Cond.soleField "KeypadWriter$State" "opened" ∈ gx_G := gx_c1 _ (List.mem_of_getElem? (i := 138) rfl) rfl
theorem gw_139 : Cond.superclass "KeypadWriter$State" "java/lang/Object" ∈ gx_G := gx_c1 _ (List.mem_of_getElem? (i := 139) rfl) rfl
theorem gw_140 : Cond.classLink "KeypadWriter" 30 "KeypadWriter$SavedStates" ∈ gx_G := gx_c1 _ (List.mem_of_getElem? (i := 140) rfl) rfl
theorem gw_141 : Cond.instantiable "KeypadWriter$SavedStates" 2 ∈ gx_G := gx_c1 _ (List.mem_of_getElem? (i := 141) rfl) rfl
theorem gw_142 : Cond.methodLink "KeypadWriter" 32 ⟨"KeypadWriter$SavedStates", "<init>", "()V"⟩ ∈ gx_G := gx_c1 _ (List.mem_of_getElem? (i := 142) rfl) rfl
theorem gw_143 : Cond.instanceMethod ⟨"KeypadWriter$SavedStates", "<init>", "()V"⟩ ∈ gx_G := gx_c1 _ (List.mem_of_getElem? (i := 143) rfl) rfl
theorem gw_144 : Cond.code ⟨"KeypadWriter$SavedStates", "<init>", "()V"⟩ prog_5_method_1_code 2 none ∈ gx_G := gx_c1 _ (List.mem_of_getElem? (i := 144) rfl) rfl
theorem gw_145 : Cond.methodLink "KeypadWriter$SavedStates" 3 ⟨"java/lang/Object", "<init>", "()V"⟩ ∈ gx_G := gx_c1 _ (List.mem_of_getElem? (i := 145) rfl) rfl
theorem gw_146 : Cond.classLink "KeypadWriter$SavedStates" 9 "KeypadWriter$State" ∈ gx_G := gx_c1 _ (List.mem_of_getElem? (i := 146) rfl) rfl
theorem gw_149 : Cond.fieldLink "KeypadWriter$SavedStates" 11 "KeypadWriter$SavedStates" "states" "[LKeypadWriter$State;" ∈ gx_G := gx_c1 _ (List.mem_of_getElem? (i := 149) rfl) rfl
theorem gw_150 : Cond.fieldLink "KeypadWriter$SavedStates" 18 "KeypadWriter$SavedStates" "size" "I" ∈ gx_G := gx_c1 _ (List.mem_of_getElem? (i := 150) rfl) rfl
theorem gw_152 : Cond.laysFinal "KeypadWriter$SavedStates" "KeypadWriter$SavedStates" "states" "[LKeypadWriter$State;" ∈ gx_G := gx_c1 _ (List.mem_of_getElem? (i := 152) rfl) rfl
theorem gw_153 : Cond.soleField "KeypadWriter$SavedStates" "states" ∈ gx_G := gx_c1 _ (List.mem_of_getElem? (i := 153) rfl) rfl
theorem gw_154 : Cond.lays "KeypadWriter$SavedStates" "KeypadWriter$SavedStates" "size" "I" ∈ gx_G := gx_c1 _ (List.mem_of_getElem? (i := 154) rfl) rfl
theorem gw_155 : Cond.soleField "KeypadWriter$SavedStates" "size" ∈ gx_G := gx_c1 _ (List.mem_of_getElem? (i := 155) rfl) rfl
theorem gw_156 : Cond.superclass "KeypadWriter$SavedStates" "java/lang/Object" ∈ gx_G := gx_c1 _ (List.mem_of_getElem? (i := 156) rfl) rfl
theorem gw_157 : Cond.classLink "KeypadWriter" 37 "KeypadWriter$Candidates" ∈ gx_G := gx_c1 _ (List.mem_of_getElem? (i := 157) rfl) rfl
theorem gw_158 : Cond.instantiable "KeypadWriter$Candidates" 2 ∈ gx_G := gx_c1 _ (List.mem_of_getElem? (i := 158) rfl) rfl
theorem gw_160 : Cond.instanceMethod ⟨"KeypadWriter$Candidates", "<init>", "()V"⟩ ∈ gx_G := gx_c1 _ (List.mem_of_getElem? (i := 160) rfl) rfl
theorem gw_161 : Cond.code ⟨"KeypadWriter$Candidates", "<init>", "()V"⟩ prog_2_method_1_code 1 none ∈ gx_G := gx_c1 _ (List.mem_of_getElem? (i := 161) rfl) rfl
theorem gw_162 : Cond.methodLink "KeypadWriter$Candidates" 3 ⟨"java/lang/Object", "<init>", "()V"⟩ ∈ gx_G := gx_c1 _ (List.mem_of_getElem? (i := 162) rfl) rfl
theorem gw_163 : Cond.fieldLink "KeypadWriter$Candidates" 9 "KeypadWriter$Candidates" "order" "[I" ∈ gx_G := gx_c1 _ (List.mem_of_getElem? (i := 163) rfl) rfl
theorem gw_164 : Cond.fieldLink "KeypadWriter$Candidates" 15 "KeypadWriter$Candidates" "size" "I" ∈ gx_G := gx_c1 _ (List.mem_of_getElem? (i := 164) rfl) rfl
theorem gw_166 : Cond.laysFinal "KeypadWriter$Candidates" "KeypadWriter$Candidates" "order" "[I" ∈ gx_G := gx_c1 _ (List.mem_of_getElem? (i := 166) rfl) rfl
theorem gw_167 : Cond.soleField "KeypadWriter$Candidates" "order" ∈ gx_G := gx_c1 _ (List.mem_of_getElem? (i := 167) rfl) rfl
theorem gw_168 : Cond.lays "KeypadWriter$Candidates" "KeypadWriter$Candidates" "size" "I" ∈ gx_G := gx_c1 _ (List.mem_of_getElem? (i := 168) rfl) rfl
theorem gw_169 : Cond.soleField "KeypadWriter$Candidates" "size" ∈ gx_G := gx_c1 _ (List.mem_of_getElem? (i := 169) rfl) rfl
theorem gw_170 : Cond.superclass "KeypadWriter$Candidates" "java/lang/Object" ∈ gx_G := gx_c1 _ (List.mem_of_getElem? (i := 170) rfl) rfl
theorem gw_171 : Cond.fieldLink "KeypadWriter" 10 "KeypadWriter" "listText" "LKeypadWriter$ListText;" ∈ gx_G := gx_c1 _ (List.mem_of_getElem? (i := 171) rfl) rfl
theorem gw_172 : Cond.fieldLink "KeypadWriter" 19 "KeypadWriter" "listRead" "LKeypadWriter$WordList;" ∈ gx_G := gx_c1 _ (List.mem_of_getElem? (i := 172) rfl) rfl
theorem gw_173 : Cond.fieldLink "KeypadWriter" 26 "KeypadWriter" "state" "LKeypadWriter$State;" ∈ gx_G := gx_c1 _ (List.mem_of_getElem? (i := 173) rfl) rfl
theorem gw_174 : Cond.fieldLink "KeypadWriter" 33 "KeypadWriter" "saved" "LKeypadWriter$SavedStates;" ∈ gx_G := gx_c1 _ (List.mem_of_getElem? (i := 174) rfl) rfl
theorem gw_175 : Cond.fieldLink "KeypadWriter" 40 "KeypadWriter" "candidates" "LKeypadWriter$Candidates;" ∈ gx_G := gx_c1 _ (List.mem_of_getElem? (i := 175) rfl) rfl
theorem gw_176 : Cond.laysFinal "KeypadWriter" "KeypadWriter" "listText" "LKeypadWriter$ListText;" ∈ gx_G := gx_c1 _ (List.mem_of_getElem? (i := 176) rfl) rfl
theorem gw_177 : Cond.soleField "KeypadWriter" "listText" ∈ gx_G := gx_c1 _ (List.mem_of_getElem? (i := 177) rfl) rfl
theorem gw_178 : Cond.laysFinal "KeypadWriter" "KeypadWriter" "listRead" "LKeypadWriter$WordList;" ∈ gx_G := gx_c1 _ (List.mem_of_getElem? (i := 178) rfl) rfl
theorem gw_179 : Cond.soleField "KeypadWriter" "listRead" ∈ gx_G := gx_c1 _ (List.mem_of_getElem? (i := 179) rfl) rfl
theorem gw_180 : Cond.laysFinal "KeypadWriter" "KeypadWriter" "state" "LKeypadWriter$State;" ∈ gx_G := gx_c1 _ (List.mem_of_getElem? (i := 180) rfl) rfl
theorem gw_181 : Cond.soleField "KeypadWriter" "state" ∈ gx_G := gx_c1 _ (List.mem_of_getElem? (i := 181) rfl) rfl
theorem gw_182 : Cond.laysFinal "KeypadWriter" "KeypadWriter" "saved" "LKeypadWriter$SavedStates;" ∈ gx_G := gx_c1 _ (List.mem_of_getElem? (i := 182) rfl) rfl
theorem gw_183 : Cond.soleField "KeypadWriter" "saved" ∈ gx_G := gx_c1 _ (List.mem_of_getElem? (i := 183) rfl) rfl
theorem gw_184 : Cond.laysFinal "KeypadWriter" "KeypadWriter" "candidates" "LKeypadWriter$Candidates;" ∈ gx_G := gx_c1 _ (List.mem_of_getElem? (i := 184) rfl) rfl
theorem gw_185 : Cond.soleField "KeypadWriter" "candidates" ∈ gx_G := gx_c1 _ (List.mem_of_getElem? (i := 185) rfl) rfl
theorem gw_186 : Cond.superclass "KeypadWriter" "java/lang/Object" ∈ gx_G := gx_c1 _ (List.mem_of_getElem? (i := 186) rfl) rfl
theorem gw_187 : Cond.methodLink "KeypadWriterLaw" 87 ⟨"KeypadWriter", "clearText", "()I"⟩ ∈ gx_G := gx_c1 _ (List.mem_of_getElem? (i := 187) rfl) rfl
theorem gw_188 : Cond.instanceMethod ⟨"KeypadWriter", "clearText", "()I"⟩ ∈ gx_G := gx_c1 _ (List.mem_of_getElem? (i := 188) rfl) rfl
theorem gw_189 : Cond.selects "KeypadWriter" ⟨"KeypadWriter", "clearText", "()I"⟩ ⟨"KeypadWriter", "clearText", "()I"⟩ ∈ gx_G := gx_c1 _ (List.mem_of_getElem? (i := 189) rfl) rfl
theorem gw_190 : Cond.code ⟨"KeypadWriter", "clearText", "()I"⟩ prog_1_method_3_code 2 (Option.some FieldType.int) ∈ gx_G := gx_c1 _ (List.mem_of_getElem? (i := 190) rfl) rfl
theorem gw_191 : Cond.methodLink "KeypadWriter" 68 ⟨"KeypadWriter$ListText", "clear", "()V"⟩ ∈ gx_G := gx_c1 _ (List.mem_of_getElem? (i := 191) rfl) rfl
theorem gw_192 : Cond.instanceMethod ⟨"KeypadWriter$ListText", "clear", "()V"⟩ ∈ gx_G := gx_c1 _ (List.mem_of_getElem? (i := 192) rfl) rfl
theorem gw_193 : Cond.selects "KeypadWriter$ListText" ⟨"KeypadWriter$ListText", "clear", "()V"⟩ ⟨"KeypadWriter$ListText", "clear", "()V"⟩ ∈ gx_G := gx_c1 _ (List.mem_of_getElem? (i := 193) rfl) rfl
theorem gw_194 : Cond.code ⟨"KeypadWriter$ListText", "clear", "()V"⟩ prog_4_method_3_code 1 none ∈ gx_G := gx_c1 _ (List.mem_of_getElem? (i := 194) rfl) rfl
theorem gw_195 : Cond.methodLink "KeypadWriterLaw" 91 ⟨"KeypadWriter", "load", "()I"⟩ ∈ gx_G := gx_c1 _ (List.mem_of_getElem? (i := 195) rfl) rfl
theorem gw_196 : Cond.instanceMethod ⟨"KeypadWriter", "load", "()I"⟩ ∈ gx_G := gx_c1 _ (List.mem_of_getElem? (i := 196) rfl) rfl
theorem gw_197 : Cond.selects "KeypadWriter" ⟨"KeypadWriter", "load", "()I"⟩ ⟨"KeypadWriter", "load", "()I"⟩ ∈ gx_G := gx_c1 _ (List.mem_of_getElem? (i := 197) rfl) rfl
theorem gw_198 : Cond.code ⟨"KeypadWriter", "load", "()I"⟩ prog_1_method_4_code 2 (Option.some FieldType.int) ∈ gx_G := gx_c1 _ (List.mem_of_getElem? (i := 198) rfl) rfl
theorem gw_199 : Cond.methodLink "KeypadWriter" 71 ⟨"KeypadWriter$ListText", "readInto", "(LKeypadWriter$WordList;)I"⟩ ∈ gx_G := gx_c1 _ (List.mem_of_getElem? (i := 199) rfl) rfl
theorem gw_200 : Cond.instanceMethod ⟨"KeypadWriter$ListText", "readInto", "(LKeypadWriter$WordList;)I"⟩ ∈ gx_G := gx_c1 _ (List.mem_of_getElem? (i := 200) rfl) rfl
theorem gw_201 : Cond.selects "KeypadWriter$ListText" ⟨"KeypadWriter$ListText", "readInto", "(LKeypadWriter$WordList;)I"⟩ ⟨"KeypadWriter$ListText", "readInto", "(LKeypadWriter$WordList;)I"⟩ ∈ gx_G := gx_c1 _ (List.mem_of_getElem? (i := 201) rfl) rfl
theorem gw_202 : Cond.code ⟨"KeypadWriter$ListText", "readInto", "(LKeypadWriter$WordList;)I"⟩ prog_4_method_5_code 3 (Option.some FieldType.int) ∈ gx_G := gx_c1 _ (List.mem_of_getElem? (i := 202) rfl) rfl
theorem gw_203 : Cond.methodLink "KeypadWriter$ListText" 23 ⟨"KeypadWriter$WordList", "clear", "()V"⟩ ∈ gx_G := gx_c1 _ (List.mem_of_getElem? (i := 203) rfl) rfl
theorem gw_204 : Cond.instanceMethod ⟨"KeypadWriter$WordList", "clear", "()V"⟩ ∈ gx_G := gx_c1 _ (List.mem_of_getElem? (i := 204) rfl) rfl
theorem gw_205 : Cond.selects "KeypadWriter$WordList" ⟨"KeypadWriter$WordList", "clear", "()V"⟩ ⟨"KeypadWriter$WordList", "clear", "()V"⟩ ∈ gx_G := gx_c1 _ (List.mem_of_getElem? (i := 205) rfl) rfl
theorem gw_206 : Cond.code ⟨"KeypadWriter$WordList", "clear", "()V"⟩ prog_8_method_2_code 1 none ∈ gx_G := gx_c1 _ (List.mem_of_getElem? (i := 206) rfl) rfl
theorem gw_207 : Cond.methodLink "KeypadWriter$ListText" 31 ⟨"KeypadWriter$ListText", "readItem", "(LKeypadWriter$WordList;)Z"⟩ ∈ gx_G := gx_c1 _ (List.mem_of_getElem? (i := 207) rfl) rfl
theorem gw_209 : Cond.instanceMethod ⟨"KeypadWriter$ListText", "readItem", "(LKeypadWriter$WordList;)Z"⟩ ∈ gx_G := gx_c1 _ (List.mem_of_getElem? (i := 209) rfl) rfl
theorem gw_210 : Cond.code ⟨"KeypadWriter$ListText", "readItem", "(LKeypadWriter$WordList;)Z"⟩ prog_4_method_6_code 6 (Option.some FieldType.boolean) ∈ gx_G := gx_c1 _ (List.mem_of_getElem? (i := 210) rfl) rfl
theorem gw_211 : Cond.methodLink "KeypadWriter$ListText" 35 ⟨"KeypadWriter$WordList", "isFull", "()Z"⟩ ∈ gx_G := gx_c1 _ (List.mem_of_getElem? (i := 211) rfl) rfl
theorem gw_212 : Cond.instanceMethod ⟨"KeypadWriter$WordList", "isFull", "()Z"⟩ ∈ gx_G := gx_c1 _ (List.mem_of_getElem? (i := 212) rfl) rfl
theorem gw_213 : Cond.selects "KeypadWriter$WordList" ⟨"KeypadWriter$WordList", "isFull", "()Z"⟩ ⟨"KeypadWriter$WordList", "isFull", "()Z"⟩ ∈ gx_G := gx_c1 _ (List.mem_of_getElem? (i := 213) rfl) rfl
theorem gw_214 : Cond.code ⟨"KeypadWriter$WordList", "isFull", "()Z"⟩ prog_8_method_5_code 1 (Option.some FieldType.boolean) ∈ gx_G := gx_c1 _ (List.mem_of_getElem? (i := 214) rfl) rfl
theorem gw_215 : Cond.methodLink "KeypadWriter$ListText" 36 ⟨"KeypadWriter$ListText", "readWord", "()J"⟩ ∈ gx_G := gx_c1 _ (List.mem_of_getElem? (i := 215) rfl) rfl
theorem gw_217 : Cond.instanceMethod ⟨"KeypadWriter$ListText", "readWord", "()J"⟩ ∈ gx_G := gx_c1 _ (List.mem_of_getElem? (i := 217) rfl) rfl
theorem gw_218 : Cond.code ⟨"KeypadWriter$ListText", "readWord", "()J"⟩ prog_4_method_7_code 4 (Option.some FieldType.long) ∈ gx_G := gx_c1 _ (List.mem_of_getElem? (i := 218) rfl) rfl
theorem gw_219 : Cond.methodLink "KeypadWriter$ListText" 57 ⟨"KeypadWriter$ListText", "isHere", "(II)Z"⟩ ∈ gx_G := gx_c1 _ (List.mem_of_getElem? (i := 219) rfl) rfl
theorem gw_221 : Cond.instanceMethod ⟨"KeypadWriter$ListText", "isHere", "(II)Z"⟩ ∈ gx_G := gx_c1 _ (List.mem_of_getElem? (i := 221) rfl) rfl
theorem gw_222 : Cond.code ⟨"KeypadWriter$ListText", "isHere", "(II)Z"⟩ prog_4_method_9_code 4 (Option.some FieldType.boolean) ∈ gx_G := gx_c1 _ (List.mem_of_getElem? (i := 222) rfl) rfl
theorem gw_223 : Cond.methodLink "KeypadWriter$ListText" 42 ⟨"KeypadWriter$ListText", "byteHere", "()I"⟩ ∈ gx_G := gx_c1 _ (List.mem_of_getElem? (i := 223) rfl) rfl
theorem gw_225 : Cond.instanceMethod ⟨"KeypadWriter$ListText", "byteHere", "()I"⟩ ∈ gx_G := gx_c1 _ (List.mem_of_getElem? (i := 225) rfl) rfl
theorem gw_226 : Cond.code ⟨"KeypadWriter$ListText", "byteHere", "()I"⟩ prog_4_method_10_code 1 (Option.some FieldType.int) ∈ gx_G := gx_c1 _ (List.mem_of_getElem? (i := 226) rfl) rfl
theorem gw_227 : Cond.methodLink "KeypadWriter$ListText" 61 ⟨"KeypadWriter$Slots", "codeOfLetter", "(I)I"⟩ ∈ gx_G := gx_c1 _ (List.mem_of_getElem? (i := 227) rfl) rfl
theorem gw_228 : Cond.static ⟨"KeypadWriter$Slots", "codeOfLetter", "(I)I"⟩ ∈ gx_G := gx_c1 _ (List.mem_of_getElem? (i := 228) rfl) rfl
theorem gw_229 : Cond.code ⟨"KeypadWriter$Slots", "codeOfLetter", "(I)I"⟩ prog_6_method_2_code 1 (Option.some FieldType.int) ∈ gx_G := gx_c1 _ (List.mem_of_getElem? (i := 229) rfl) rfl
theorem gw_230 : Cond.methodLink "KeypadWriter$ListText" 65 ⟨"KeypadWriter$Slots", "with", "(JII)J"⟩ ∈ gx_G := gx_c1 _ (List.mem_of_getElem? (i := 230) rfl) rfl
theorem gw_231 : Cond.static ⟨"KeypadWriter$Slots", "with", "(JII)J"⟩ ∈ gx_G := gx_c1 _ (List.mem_of_getElem? (i := 231) rfl) rfl
theorem gw_232 : Cond.code ⟨"KeypadWriter$Slots", "with", "(JII)J"⟩ prog_6_method_11_code 5 (Option.some FieldType.long) ∈ gx_G := gx_c1 _ (List.mem_of_getElem? (i := 232) rfl) rfl
theorem gw_233 : Cond.constantLong "KeypadWriter$Slots" 11 (63 : Int64) ∈ gx_G := gx_c1 _ (List.mem_of_getElem? (i := 233) rfl) rfl
theorem gw_234 : Cond.constantLong "KeypadWriter$Slots" 21 (-1 : Int64) ∈ gx_G := gx_c1 _ (List.mem_of_getElem? (i := 234) rfl) rfl
theorem gw_235 : Cond.methodLink "KeypadWriter$ListText" 46 ⟨"KeypadWriter$WordList", "find", "(J)I"⟩ ∈ gx_G := gx_c1 _ (List.mem_of_getElem? (i := 235) rfl) rfl
theorem gw_236 : Cond.instanceMethod ⟨"KeypadWriter$WordList", "find", "(J)I"⟩ ∈ gx_G := gx_c1 _ (List.mem_of_getElem? (i := 236) rfl) rfl
theorem gw_237 : Cond.selects "KeypadWriter$WordList" ⟨"KeypadWriter$WordList", "find", "(J)I"⟩ ⟨"KeypadWriter$WordList", "find", "(J)I"⟩ ∈ gx_G := gx_c1 _ (List.mem_of_getElem? (i := 237) rfl) rfl
theorem gw_238 : Cond.code ⟨"KeypadWriter$WordList", "find", "(J)I"⟩ prog_8_method_12_code 4 (Option.some FieldType.int) ∈ gx_G := gx_c1 _ (List.mem_of_getElem? (i := 238) rfl) rfl
theorem gw_239 : Cond.methodLink "KeypadWriter$WordList" 45 ⟨"KeypadWriter$WordList", "wordAt", "(I)J"⟩ ∈ gx_G := gx_c1 _ (List.mem_of_getElem? (i := 239) rfl) rfl
theorem gw_240 : Cond.instanceMethod ⟨"KeypadWriter$WordList", "wordAt", "(I)J"⟩ ∈ gx_G := gx_c2 _ (List.mem_of_getElem? (i := 0) rfl) rfl
theorem gw_241 : Cond.selects "KeypadWriter$WordList" ⟨"KeypadWriter$WordList", "wordAt", "(I)J"⟩ ⟨"KeypadWriter$WordList", "wordAt", "(I)J"⟩ ∈ gx_G := gx_c2 _ (List.mem_of_getElem? (i := 1) rfl) rfl
theorem gw_242 : Cond.code ⟨"KeypadWriter$WordList", "wordAt", "(I)J"⟩ prog_8_method_6_code 2 (Option.some FieldType.long) ∈ gx_G := gx_c2 _ (List.mem_of_getElem? (i := 2) rfl) rfl
theorem gw_243 : Cond.methodLink "KeypadWriter$WordList" 39 ⟨"KeypadWriter$WordList", "has", "(I)Z"⟩ ∈ gx_G := gx_c2 _ (List.mem_of_getElem? (i := 3) rfl) rfl
theorem gw_244 : Cond.instanceMethod ⟨"KeypadWriter$WordList", "has", "(I)Z"⟩ ∈ gx_G := gx_c2 _ (List.mem_of_getElem? (i := 4) rfl) rfl
theorem gw_245 : Cond.selects "KeypadWriter$WordList" ⟨"KeypadWriter$WordList", "has", "(I)Z"⟩ ⟨"KeypadWriter$WordList", "has", "(I)Z"⟩ ∈ gx_G := gx_c2 _ (List.mem_of_getElem? (i := 5) rfl) rfl
theorem gw_246 : Cond.code ⟨"KeypadWriter$WordList", "has", "(I)Z"⟩ prog_8_method_4_code 2 (Option.some FieldType.boolean) ∈ gx_G := gx_c2 _ (List.mem_of_getElem? (i := 6) rfl) rfl
theorem gw_247 : Cond.methodLink "KeypadWriter$ListText" 50 ⟨"KeypadWriter$ListText", "readCount", "()I"⟩ ∈ gx_G := gx_c2 _ (List.mem_of_getElem? (i := 7) rfl) rfl
theorem gw_249 : Cond.instanceMethod ⟨"KeypadWriter$ListText", "readCount", "()I"⟩ ∈ gx_G := gx_c2 _ (List.mem_of_getElem? (i := 9) rfl) rfl
theorem gw_250 : Cond.code ⟨"KeypadWriter$ListText", "readCount", "()I"⟩ prog_4_method_8_code 3 (Option.some FieldType.int) ∈ gx_G := gx_c2 _ (List.mem_of_getElem? (i := 10) rfl) rfl
theorem gw_251 : Cond.methodLink "KeypadWriter$ListText" 53 ⟨"KeypadWriter$WordList", "insert", "(JIIZ)V"⟩ ∈ gx_G := gx_c2 _ (List.mem_of_getElem? (i := 11) rfl) rfl
theorem gw_252 : Cond.instanceMethod ⟨"KeypadWriter$WordList", "insert", "(JIIZ)V"⟩ ∈ gx_G := gx_c2 _ (List.mem_of_getElem? (i := 12) rfl) rfl
theorem gw_253 : Cond.selects "KeypadWriter$WordList" ⟨"KeypadWriter$WordList", "insert", "(JIIZ)V"⟩ ⟨"KeypadWriter$WordList", "insert", "(JIIZ)V"⟩ ∈ gx_G := gx_c2 _ (List.mem_of_getElem? (i := 13) rfl) rfl
theorem gw_254 : Cond.code ⟨"KeypadWriter$WordList", "insert", "(JIIZ)V"⟩ prog_8_method_16_code 6 none ∈ gx_G := gx_c2 _ (List.mem_of_getElem? (i := 14) rfl) rfl
theorem gw_255 : Cond.methodLink "KeypadWriter$WordList" 77 ⟨"KeypadWriter$WordList", "isFull", "()Z"⟩ ∈ gx_G := gx_c2 _ (List.mem_of_getElem? (i := 15) rfl) rfl
theorem gw_256 : Cond.methodLink "KeypadWriter$WordList" 81 ⟨"KeypadWriter$Slots", "keysOf", "(J)J"⟩ ∈ gx_G := gx_c2 _ (List.mem_of_getElem? (i := 16) rfl) rfl
theorem gw_257 : Cond.static ⟨"KeypadWriter$Slots", "keysOf", "(J)J"⟩ ∈ gx_G := gx_c2 _ (List.mem_of_getElem? (i := 17) rfl) rfl
theorem gw_258 : Cond.code ⟨"KeypadWriter$Slots", "keysOf", "(J)J"⟩ prog_6_method_13_code 6 (Option.some FieldType.long) ∈ gx_G := gx_c2 _ (List.mem_of_getElem? (i := 18) rfl) rfl
theorem gw_259 : Cond.methodLink "KeypadWriter$Slots" 27 ⟨"KeypadWriter$Slots", "lengthOf", "(J)I"⟩ ∈ gx_G := gx_c2 _ (List.mem_of_getElem? (i := 19) rfl) rfl
theorem gw_260 : Cond.static ⟨"KeypadWriter$Slots", "lengthOf", "(J)I"⟩ ∈ gx_G := gx_c2 _ (List.mem_of_getElem? (i := 20) rfl) rfl
theorem gw_261 : Cond.code ⟨"KeypadWriter$Slots", "lengthOf", "(J)I"⟩ prog_6_method_10_code 3 (Option.some FieldType.int) ∈ gx_G := gx_c2 _ (List.mem_of_getElem? (i := 21) rfl) rfl
theorem gw_262 : Cond.methodLink "KeypadWriter$Slots" 13 ⟨"KeypadWriter$Slots", "codeAt", "(JI)I"⟩ ∈ gx_G := gx_c2 _ (List.mem_of_getElem? (i := 22) rfl) rfl
theorem gw_263 : Cond.static ⟨"KeypadWriter$Slots", "codeAt", "(JI)I"⟩ ∈ gx_G := gx_c2 _ (List.mem_of_getElem? (i := 23) rfl) rfl
theorem gw_264 : Cond.code ⟨"KeypadWriter$Slots", "codeAt", "(JI)I"⟩ prog_6_method_7_code 3 (Option.some FieldType.int) ∈ gx_G := gx_c2 _ (List.mem_of_getElem? (i := 24) rfl) rfl
theorem gw_265 : Cond.methodLink "KeypadWriter$Slots" 31 ⟨"KeypadWriter$Slots", "letterAt", "(JI)I"⟩ ∈ gx_G := gx_c2 _ (List.mem_of_getElem? (i := 25) rfl) rfl
theorem gw_266 : Cond.static ⟨"KeypadWriter$Slots", "letterAt", "(JI)I"⟩ ∈ gx_G := gx_c2 _ (List.mem_of_getElem? (i := 26) rfl) rfl
theorem gw_267 : Cond.code ⟨"KeypadWriter$Slots", "letterAt", "(JI)I"⟩ prog_6_method_8_code 3 (Option.some FieldType.int) ∈ gx_G := gx_c2 _ (List.mem_of_getElem? (i := 27) rfl) rfl
theorem gw_268 : Cond.methodLink "KeypadWriter$Slots" 17 ⟨"KeypadWriter$Slots", "letterOf", "(I)I"⟩ ∈ gx_G := gx_c2 _ (List.mem_of_getElem? (i := 28) rfl) rfl
theorem gw_269 : Cond.static ⟨"KeypadWriter$Slots", "letterOf", "(I)I"⟩ ∈ gx_G := gx_c2 _ (List.mem_of_getElem? (i := 29) rfl) rfl
theorem gw_270 : Cond.code ⟨"KeypadWriter$Slots", "letterOf", "(I)I"⟩ prog_6_method_5_code 1 (Option.some FieldType.int) ∈ gx_G := gx_c2 _ (List.mem_of_getElem? (i := 30) rfl) rfl
theorem gw_271 : Cond.methodLink "KeypadWriter$Slots" 34 ⟨"KeypadWriter$Keys", "keyWith", "(I)I"⟩ ∈ gx_G := gx_c2 _ (List.mem_of_getElem? (i := 31) rfl) rfl
theorem gw_272 : Cond.static ⟨"KeypadWriter$Keys", "keyWith", "(I)I"⟩ ∈ gx_G := gx_c2 _ (List.mem_of_getElem? (i := 32) rfl) rfl
theorem gw_273 : Cond.code ⟨"KeypadWriter$Keys", "keyWith", "(I)I"⟩ prog_3_method_3_code 1 (Option.some FieldType.int) ∈ gx_G := gx_c2 _ (List.mem_of_getElem? (i := 33) rfl) rfl
theorem gw_274 : Cond.fieldLink "KeypadWriter$Keys" 11 "KeypadWriter$Keys" "KEY_OF_LETTER" "[I" ∈ gx_G := gx_c2 _ (List.mem_of_getElem? (i := 34) rfl) rfl
theorem gw_276 : Cond.methodLink "KeypadWriter$Slots" 39 ⟨"KeypadWriter$Slots", "codeOfKey", "(I)I"⟩ ∈ gx_G := gx_c2 _ (List.mem_of_getElem? (i := 36) rfl) rfl
theorem gw_277 : Cond.static ⟨"KeypadWriter$Slots", "codeOfKey", "(I)I"⟩ ∈ gx_G := gx_c2 _ (List.mem_of_getElem? (i := 37) rfl) rfl
theorem gw_278 : Cond.code ⟨"KeypadWriter$Slots", "codeOfKey", "(I)I"⟩ prog_6_method_3_code 1 (Option.some FieldType.int) ∈ gx_G := gx_c2 _ (List.mem_of_getElem? (i := 38) rfl) rfl
theorem gw_279 : Cond.methodLink "KeypadWriter$Slots" 23 ⟨"KeypadWriter$Slots", "with", "(JII)J"⟩ ∈ gx_G := gx_c2 _ (List.mem_of_getElem? (i := 39) rfl) rfl
theorem gw_280 : Cond.methodLink "KeypadWriter" 75 ⟨"KeypadWriter$SavedStates", "push", "(LKeypadWriter$State;)V"⟩ ∈ gx_G := gx_c2 _ (List.mem_of_getElem? (i := 40) rfl) rfl
theorem gw_281 : Cond.instanceMethod ⟨"KeypadWriter$SavedStates", "push", "(LKeypadWriter$State;)V"⟩ ∈ gx_G := gx_c2 _ (List.mem_of_getElem? (i := 41) rfl) rfl
theorem gw_282 : Cond.selects "KeypadWriter$SavedStates" ⟨"KeypadWriter$SavedStates", "push", "(LKeypadWriter$State;)V"⟩ ⟨"KeypadWriter$SavedStates", "push", "(LKeypadWriter$State;)V"⟩ ∈ gx_G := gx_c2 _ (List.mem_of_getElem? (i := 42) rfl) rfl
theorem gw_283 : Cond.code ⟨"KeypadWriter$SavedStates", "push", "(LKeypadWriter$State;)V"⟩ prog_5_method_2_code 3 none ∈ gx_G := gx_c2 _ (List.mem_of_getElem? (i := 43) rfl) rfl
theorem gw_284 : Cond.methodLink "KeypadWriter$SavedStates" 22 ⟨"KeypadWriter$SavedStates", "dropOldest", "()V"⟩ ∈ gx_G := gx_c2 _ (List.mem_of_getElem? (i := 44) rfl) rfl
theorem gw_286 : Cond.instanceMethod ⟨"KeypadWriter$SavedStates", "dropOldest", "()V"⟩ ∈ gx_G := gx_c2 _ (List.mem_of_getElem? (i := 46) rfl) rfl
theorem gw_287 : Cond.code ⟨"KeypadWriter$SavedStates", "dropOldest", "()V"⟩ prog_5_method_5_code 3 none ∈ gx_G := gx_c2 _ (List.mem_of_getElem? (i := 47) rfl) rfl
theorem gw_288 : Cond.methodLink "KeypadWriter$SavedStates" 25 ⟨"KeypadWriter$SavedStates", "stateAt", "(I)LKeypadWriter$State;"⟩ ∈ gx_G := gx_c2 _ (List.mem_of_getElem? (i := 48) rfl) rfl
theorem gw_290 : Cond.instanceMethod ⟨"KeypadWriter$SavedStates", "stateAt", "(I)LKeypadWriter$State;"⟩ ∈ gx_G := gx_c2 _ (List.mem_of_getElem? (i := 50) rfl) rfl
theorem gw_291 : Cond.code ⟨"KeypadWriter$SavedStates", "stateAt", "(I)LKeypadWriter$State;"⟩ prog_5_method_4_code 2 (Option.some (FieldType.object "KeypadWriter$State")) ∈ gx_G := gx_c2 _ (List.mem_of_getElem? (i := 51) rfl) rfl
theorem gw_292 : Cond.methodLink "KeypadWriter$SavedStates" 29 ⟨"KeypadWriter$State", "copyFrom", "(LKeypadWriter$State;)V"⟩ ∈ gx_G := gx_c2 _ (List.mem_of_getElem? (i := 52) rfl) rfl
theorem gw_293 : Cond.instanceMethod ⟨"KeypadWriter$State", "copyFrom", "(LKeypadWriter$State;)V"⟩ ∈ gx_G := gx_c2 _ (List.mem_of_getElem? (i := 53) rfl) rfl
theorem gw_294 : Cond.selects "KeypadWriter$State" ⟨"KeypadWriter$State", "copyFrom", "(LKeypadWriter$State;)V"⟩ ⟨"KeypadWriter$State", "copyFrom", "(LKeypadWriter$State;)V"⟩ ∈ gx_G := gx_c2 _ (List.mem_of_getElem? (i := 54) rfl) rfl
theorem gw_295 : Cond.code ⟨"KeypadWriter$State", "copyFrom", "(LKeypadWriter$State;)V"⟩ prog_7_method_2_code 2 none ∈ gx_G := gx_c2 _ (List.mem_of_getElem? (i := 55) rfl) rfl
theorem gw_296 : Cond.methodLink "KeypadWriter$State" 41 ⟨"KeypadWriter$WordList", "copyFrom", "(LKeypadWriter$WordList;)V"⟩ ∈ gx_G := gx_c2 _ (List.mem_of_getElem? (i := 56) rfl) rfl
theorem gw_297 : Cond.instanceMethod ⟨"KeypadWriter$WordList", "copyFrom", "(LKeypadWriter$WordList;)V"⟩ ∈ gx_G := gx_c2 _ (List.mem_of_getElem? (i := 57) rfl) rfl
theorem gw_298 : Cond.selects "KeypadWriter$WordList" ⟨"KeypadWriter$WordList", "copyFrom", "(LKeypadWriter$WordList;)V"⟩ ⟨"KeypadWriter$WordList", "copyFrom", "(LKeypadWriter$WordList;)V"⟩ ∈ gx_G := gx_c2 _ (List.mem_of_getElem? (i := 58) rfl) rfl
theorem gw_299 : Cond.code ⟨"KeypadWriter$WordList", "copyFrom", "(LKeypadWriter$WordList;)V"⟩ prog_8_method_3_code 3 none ∈ gx_G := gx_c2 _ (List.mem_of_getElem? (i := 59) rfl) rfl
theorem gw_300 : Cond.methodLink "KeypadWriter$WordList" 33 ⟨"java/lang/System", "arraycopy", "(Ljava/lang/Object;ILjava/lang/Object;II)V"⟩ ∈ gx_G := gx_c2 _ (List.mem_of_getElem? (i := 60) rfl) rfl
theorem gw_301 : Cond.static ⟨"java/lang/System", "arraycopy", "(Ljava/lang/Object;ILjava/lang/Object;II)V"⟩ ∈ gx_G := gx_c2 _ (List.mem_of_getElem? (i := 61) rfl) rfl
theorem gw_303 : Cond.methodLink "KeypadWriter$State" 45 ⟨"KeypadWriter$WrittenText", "copyFrom", "(LKeypadWriter$WrittenText;)V"⟩ ∈ gx_G := gx_c2 _ (List.mem_of_getElem? (i := 63) rfl) rfl
theorem gw_304 : Cond.instanceMethod ⟨"KeypadWriter$WrittenText", "copyFrom", "(LKeypadWriter$WrittenText;)V"⟩ ∈ gx_G := gx_c2 _ (List.mem_of_getElem? (i := 64) rfl) rfl
theorem gw_305 : Cond.selects "KeypadWriter$WrittenText" ⟨"KeypadWriter$WrittenText", "copyFrom", "(LKeypadWriter$WrittenText;)V"⟩ ⟨"KeypadWriter$WrittenText", "copyFrom", "(LKeypadWriter$WrittenText;)V"⟩ ∈ gx_G := gx_c2 _ (List.mem_of_getElem? (i := 65) rfl) rfl
theorem gw_306 : Cond.code ⟨"KeypadWriter$WrittenText", "copyFrom", "(LKeypadWriter$WrittenText;)V"⟩ prog_9_method_2_code 2 none ∈ gx_G := gx_c2 _ (List.mem_of_getElem? (i := 66) rfl) rfl
theorem gw_307 : Cond.methodLink "KeypadWriter$WrittenText" 15 ⟨"java/lang/System", "arraycopy", "(Ljava/lang/Object;ILjava/lang/Object;II)V"⟩ ∈ gx_G := gx_c2 _ (List.mem_of_getElem? (i := 67) rfl) rfl
theorem gw_308 : Cond.methodLink "KeypadWriter" 82 ⟨"KeypadWriter$WordList", "copyFrom", "(LKeypadWriter$WordList;)V"⟩ ∈ gx_G := gx_c2 _ (List.mem_of_getElem? (i := 68) rfl) rfl
theorem gw_309 : Cond.methodLink "KeypadWriterLaw" 109 ⟨"KeypadWriter", "pause", "()I"⟩ ∈ gx_G := gx_c2 _ (List.mem_of_getElem? (i := 69) rfl) rfl
theorem gw_310 : Cond.instanceMethod ⟨"KeypadWriter", "pause", "()I"⟩ ∈ gx_G := gx_c2 _ (List.mem_of_getElem? (i := 70) rfl) rfl
theorem gw_311 : Cond.selects "KeypadWriter" ⟨"KeypadWriter", "pause", "()I"⟩ ⟨"KeypadWriter", "pause", "()I"⟩ ∈ gx_G := gx_c2 _ (List.mem_of_getElem? (i := 71) rfl) rfl
theorem gw_312 : Cond.code ⟨"KeypadWriter", "pause", "()I"⟩ prog_1_method_9_code 2 (Option.some FieldType.int) ∈ gx_G := gx_c2 _ (List.mem_of_getElem? (i := 72) rfl) rfl
theorem gw_313 : Cond.methodLink "KeypadWriterLaw" 113 ⟨"KeypadWriter", "mode", "(Z)I"⟩ ∈ gx_G := gx_c2 _ (List.mem_of_getElem? (i := 73) rfl) rfl
theorem gw_314 : Cond.instanceMethod ⟨"KeypadWriter", "mode", "(Z)I"⟩ ∈ gx_G := gx_c2 _ (List.mem_of_getElem? (i := 74) rfl) rfl
theorem gw_315 : Cond.selects "KeypadWriter" ⟨"KeypadWriter", "mode", "(Z)I"⟩ ⟨"KeypadWriter", "mode", "(Z)I"⟩ ∈ gx_G := gx_c2 _ (List.mem_of_getElem? (i := 75) rfl) rfl
theorem gw_316 : Cond.code ⟨"KeypadWriter", "mode", "(Z)I"⟩ prog_1_method_10_code 2 (Option.some FieldType.int) ∈ gx_G := gx_c2 _ (List.mem_of_getElem? (i := 76) rfl) rfl
theorem gw_317 : Cond.methodLink "KeypadWriter" 153 ⟨"KeypadWriter", "displayed", "()J"⟩ ∈ gx_G := gx_c2 _ (List.mem_of_getElem? (i := 77) rfl) rfl
theorem gw_319 : Cond.instanceMethod ⟨"KeypadWriter", "displayed", "()J"⟩ ∈ gx_G := gx_c2 _ (List.mem_of_getElem? (i := 79) rfl) rfl
theorem gw_320 : Cond.code ⟨"KeypadWriter", "displayed", "()J"⟩ prog_1_method_32_code 1 (Option.some FieldType.long) ∈ gx_G := gx_c2 _ (List.mem_of_getElem? (i := 80) rfl) rfl
theorem gw_321 : Cond.methodLink "KeypadWriter" 168 ⟨"KeypadWriter$Candidates", "find", "(LKeypadWriter$State;)V"⟩ ∈ gx_G := gx_c2 _ (List.mem_of_getElem? (i := 81) rfl) rfl
theorem gw_322 : Cond.instanceMethod ⟨"KeypadWriter$Candidates", "find", "(LKeypadWriter$State;)V"⟩ ∈ gx_G := gx_c2 _ (List.mem_of_getElem? (i := 82) rfl) rfl
theorem gw_323 : Cond.selects "KeypadWriter$Candidates" ⟨"KeypadWriter$Candidates", "find", "(LKeypadWriter$State;)V"⟩ ⟨"KeypadWriter$Candidates", "find", "(LKeypadWriter$State;)V"⟩ ∈ gx_G := gx_c2 _ (List.mem_of_getElem? (i := 83) rfl) rfl
theorem gw_324 : Cond.code ⟨"KeypadWriter$Candidates", "find", "(LKeypadWriter$State;)V"⟩ prog_2_method_2_code 6 none ∈ gx_G := gx_c2 _ (List.mem_of_getElem? (i := 84) rfl) rfl
theorem gw_325 : Cond.methodLink "KeypadWriter$Candidates" 19 ⟨"KeypadWriter$State", "places", "()I"⟩ ∈ gx_G := gx_c2 _ (List.mem_of_getElem? (i := 85) rfl) rfl
theorem gw_326 : Cond.instanceMethod ⟨"KeypadWriter$State", "places", "()I"⟩ ∈ gx_G := gx_c2 _ (List.mem_of_getElem? (i := 86) rfl) rfl
theorem gw_327 : Cond.selects "KeypadWriter$State" ⟨"KeypadWriter$State", "places", "()I"⟩ ⟨"KeypadWriter$State", "places", "()I"⟩ ∈ gx_G := gx_c2 _ (List.mem_of_getElem? (i := 87) rfl) rfl
theorem gw_328 : Cond.code ⟨"KeypadWriter$State", "places", "()I"⟩ prog_7_method_3_code 1 (Option.some FieldType.int) ∈ gx_G := gx_c2 _ (List.mem_of_getElem? (i := 88) rfl) rfl
theorem gw_329 : Cond.methodLink "KeypadWriter$State" 61 ⟨"KeypadWriter$Slots", "lengthOf", "(J)I"⟩ ∈ gx_G := gx_c2 _ (List.mem_of_getElem? (i := 89) rfl) rfl
theorem gw_330 : Cond.methodLink "KeypadWriter$Candidates" 32 ⟨"KeypadWriter$WordList", "wordAt", "(I)J"⟩ ∈ gx_G := gx_c2 _ (List.mem_of_getElem? (i := 90) rfl) rfl
theorem gw_331 : Cond.methodLink "KeypadWriter$Candidates" 36 ⟨"KeypadWriter$Slots", "has", "(JI)Z"⟩ ∈ gx_G := gx_c2 _ (List.mem_of_getElem? (i := 91) rfl) rfl
theorem gw_332 : Cond.static ⟨"KeypadWriter$Slots", "has", "(JI)Z"⟩ ∈ gx_G := gx_c2 _ (List.mem_of_getElem? (i := 92) rfl) rfl
theorem gw_333 : Cond.code ⟨"KeypadWriter$Slots", "has", "(JI)Z"⟩ prog_6_method_9_code 3 (Option.some FieldType.boolean) ∈ gx_G := gx_c2 _ (List.mem_of_getElem? (i := 93) rfl) rfl
theorem gw_334 : Cond.methodLink "KeypadWriter$Candidates" 50 ⟨"KeypadWriter$WordList", "beginsWith", "(IJ)Z"⟩ ∈ gx_G := gx_c2 _ (List.mem_of_getElem? (i := 94) rfl) rfl
theorem gw_335 : Cond.instanceMethod ⟨"KeypadWriter$WordList", "beginsWith", "(IJ)Z"⟩ ∈ gx_G := gx_c2 _ (List.mem_of_getElem? (i := 95) rfl) rfl
theorem gw_336 : Cond.selects "KeypadWriter$WordList" ⟨"KeypadWriter$WordList", "beginsWith", "(IJ)Z"⟩ ⟨"KeypadWriter$WordList", "beginsWith", "(IJ)Z"⟩ ∈ gx_G := gx_c2 _ (List.mem_of_getElem? (i := 96) rfl) rfl
theorem gw_337 : Cond.code ⟨"KeypadWriter$WordList", "beginsWith", "(IJ)Z"⟩ prog_8_method_15_code 10 (Option.some FieldType.boolean) ∈ gx_G := gx_c2 _ (List.mem_of_getElem? (i := 97) rfl) rfl
theorem gw_338 : Cond.methodLink "KeypadWriter$WordList" 70 ⟨"KeypadWriter$WordList", "keysAt", "(I)J"⟩ ∈ gx_G := gx_c2 _ (List.mem_of_getElem? (i := 98) rfl) rfl
theorem gw_339 : Cond.instanceMethod ⟨"KeypadWriter$WordList", "keysAt", "(I)J"⟩ ∈ gx_G := gx_c2 _ (List.mem_of_getElem? (i := 99) rfl) rfl
theorem gw_340 : Cond.selects "KeypadWriter$WordList" ⟨"KeypadWriter$WordList", "keysAt", "(I)J"⟩ ⟨"KeypadWriter$WordList", "keysAt", "(I)J"⟩ ∈ gx_G := gx_c2 _ (List.mem_of_getElem? (i := 100) rfl) rfl
theorem gw_341 : Cond.code ⟨"KeypadWriter$WordList", "keysAt", "(I)J"⟩ prog_8_method_7_code 2 (Option.some FieldType.long) ∈ gx_G := gx_c2 _ (List.mem_of_getElem? (i := 101) rfl) rfl
theorem gw_342 : Cond.methodLink "KeypadWriter$WordList" 73 ⟨"KeypadWriter$Slots", "codeAt", "(JI)I"⟩ ∈ gx_G := gx_c2 _ (List.mem_of_getElem? (i := 102) rfl) rfl
theorem gw_343 : Cond.methodLink "KeypadWriter$Candidates" 54 ⟨"KeypadWriter$Candidates", "insert", "(LKeypadWriter$WordList;II)V"⟩ ∈ gx_G := gx_c2 _ (List.mem_of_getElem? (i := 103) rfl) rfl
theorem gw_345 : Cond.instanceMethod ⟨"KeypadWriter$Candidates", "insert", "(LKeypadWriter$WordList;II)V"⟩ ∈ gx_G := gx_c2 _ (List.mem_of_getElem? (i := 105) rfl) rfl
theorem gw_346 : Cond.code ⟨"KeypadWriter$Candidates", "insert", "(LKeypadWriter$WordList;II)V"⟩ prog_2_method_4_code 5 none ∈ gx_G := gx_c2 _ (List.mem_of_getElem? (i := 106) rfl) rfl
theorem gw_347 : Cond.methodLink "KeypadWriter$Candidates" 58 ⟨"KeypadWriter$Candidates", "comesBefore", "(LKeypadWriter$WordList;III)Z"⟩ ∈ gx_G := gx_c2 _ (List.mem_of_getElem? (i := 107) rfl) rfl
theorem gw_348 : Cond.static ⟨"KeypadWriter$Candidates", "comesBefore", "(LKeypadWriter$WordList;III)Z"⟩ ∈ gx_G := gx_c2 _ (List.mem_of_getElem? (i := 108) rfl) rfl
theorem gw_349 : Cond.code ⟨"KeypadWriter$Candidates", "comesBefore", "(LKeypadWriter$WordList;III)Z"⟩ prog_2_method_6_code 5 (Option.some FieldType.boolean) ∈ gx_G := gx_c2 _ (List.mem_of_getElem? (i := 109) rfl) rfl
theorem gw_350 : Cond.methodLink "KeypadWriter$Candidates" 66 ⟨"KeypadWriter$WordList", "ranksBefore", "(II)Z"⟩ ∈ gx_G := gx_c2 _ (List.mem_of_getElem? (i := 110) rfl) rfl
theorem gw_351 : Cond.instanceMethod ⟨"KeypadWriter$WordList", "ranksBefore", "(II)Z"⟩ ∈ gx_G := gx_c2 _ (List.mem_of_getElem? (i := 111) rfl) rfl
theorem gw_352 : Cond.selects "KeypadWriter$WordList" ⟨"KeypadWriter$WordList", "ranksBefore", "(II)Z"⟩ ⟨"KeypadWriter$WordList", "ranksBefore", "(II)Z"⟩ ∈ gx_G := gx_c2 _ (List.mem_of_getElem? (i := 112) rfl) rfl
theorem gw_353 : Cond.code ⟨"KeypadWriter$WordList", "ranksBefore", "(II)Z"⟩ prog_8_method_13_code 3 (Option.some FieldType.boolean) ∈ gx_G := gx_c2 _ (List.mem_of_getElem? (i := 113) rfl) rfl
theorem gw_354 : Cond.methodLink "KeypadWriter" 218 ⟨"KeypadWriter$Candidates", "wordAt", "(I)I"⟩ ∈ gx_G := gx_c2 _ (List.mem_of_getElem? (i := 114) rfl) rfl
theorem gw_355 : Cond.instanceMethod ⟨"KeypadWriter$Candidates", "wordAt", "(I)I"⟩ ∈ gx_G := gx_c2 _ (List.mem_of_getElem? (i := 115) rfl) rfl
theorem gw_356 : Cond.selects "KeypadWriter$Candidates" ⟨"KeypadWriter$Candidates", "wordAt", "(I)I"⟩ ⟨"KeypadWriter$Candidates", "wordAt", "(I)I"⟩ ∈ gx_G := gx_c2 _ (List.mem_of_getElem? (i := 116) rfl) rfl
theorem gw_357 : Cond.code ⟨"KeypadWriter$Candidates", "wordAt", "(I)I"⟩ prog_2_method_3_code 2 (Option.some FieldType.int) ∈ gx_G := gx_c2 _ (List.mem_of_getElem? (i := 117) rfl) rfl
theorem gw_358 : Cond.methodLink "KeypadWriter" 116 ⟨"KeypadWriter$WordList", "wordAt", "(I)J"⟩ ∈ gx_G := gx_c2 _ (List.mem_of_getElem? (i := 118) rfl) rfl
theorem gw_359 : Cond.methodLink "KeypadWriter" 283 ⟨"KeypadWriter$Slots", "firstLetters", "(J)J"⟩ ∈ gx_G := gx_c2 _ (List.mem_of_getElem? (i := 119) rfl) rfl
theorem gw_360 : Cond.static ⟨"KeypadWriter$Slots", "firstLetters", "(J)J"⟩ ∈ gx_G := gx_c2 _ (List.mem_of_getElem? (i := 120) rfl) rfl
theorem gw_361 : Cond.code ⟨"KeypadWriter$Slots", "firstLetters", "(J)J"⟩ prog_6_method_14_code 8 (Option.some FieldType.long) ∈ gx_G := gx_c2 _ (List.mem_of_getElem? (i := 121) rfl) rfl
theorem gw_362 : Cond.methodLink "KeypadWriter$Slots" 42 ⟨"KeypadWriter$Slots", "isLetter", "(I)Z"⟩ ∈ gx_G := gx_c2 _ (List.mem_of_getElem? (i := 122) rfl) rfl
theorem gw_363 : Cond.static ⟨"KeypadWriter$Slots", "isLetter", "(I)Z"⟩ ∈ gx_G := gx_c2 _ (List.mem_of_getElem? (i := 123) rfl) rfl
theorem gw_364 : Cond.code ⟨"KeypadWriter$Slots", "isLetter", "(I)Z"⟩ prog_6_method_4_code 1 (Option.some FieldType.boolean) ∈ gx_G := gx_c2 _ (List.mem_of_getElem? (i := 124) rfl) rfl
theorem gw_365 : Cond.methodLink "KeypadWriter$Slots" 46 ⟨"KeypadWriter$Slots", "keyOf", "(I)I"⟩ ∈ gx_G := gx_c2 _ (List.mem_of_getElem? (i := 125) rfl) rfl
theorem gw_366 : Cond.static ⟨"KeypadWriter$Slots", "keyOf", "(I)I"⟩ ∈ gx_G := gx_c2 _ (List.mem_of_getElem? (i := 126) rfl) rfl
theorem gw_367 : Cond.code ⟨"KeypadWriter$Slots", "keyOf", "(I)I"⟩ prog_6_method_6_code 1 (Option.some FieldType.int) ∈ gx_G := gx_c2 _ (List.mem_of_getElem? (i := 127) rfl) rfl
theorem gw_368 : Cond.methodLink "KeypadWriter$Slots" 49 ⟨"KeypadWriter$Keys", "firstLetter", "(I)I"⟩ ∈ gx_G := gx_c2 _ (List.mem_of_getElem? (i := 128) rfl) rfl
theorem gw_369 : Cond.static ⟨"KeypadWriter$Keys", "firstLetter", "(I)I"⟩ ∈ gx_G := gx_c2 _ (List.mem_of_getElem? (i := 129) rfl) rfl
theorem gw_370 : Cond.code ⟨"KeypadWriter$Keys", "firstLetter", "(I)I"⟩ prog_3_method_4_code 1 (Option.some FieldType.int) ∈ gx_G := gx_c2 _ (List.mem_of_getElem? (i := 130) rfl) rfl
theorem gw_371 : Cond.methodLink "KeypadWriter$Keys" 15 ⟨"KeypadWriter$Keys", "isKey", "(I)Z"⟩ ∈ gx_G := gx_c2 _ (List.mem_of_getElem? (i := 131) rfl) rfl
theorem gw_372 : Cond.static ⟨"KeypadWriter$Keys", "isKey", "(I)Z"⟩ ∈ gx_G := gx_c2 _ (List.mem_of_getElem? (i := 132) rfl) rfl
theorem gw_373 : Cond.code ⟨"KeypadWriter$Keys", "isKey", "(I)Z"⟩ prog_3_method_2_code 1 (Option.some FieldType.boolean) ∈ gx_G := gx_c2 _ (List.mem_of_getElem? (i := 133) rfl) rfl
theorem gw_374 : Cond.fieldLink "KeypadWriter$Keys" 19 "KeypadWriter$Keys" "FIRST_LETTER_FROM_KEY_2" "[I" ∈ gx_G := gx_c2 _ (List.mem_of_getElem? (i := 134) rfl) rfl
theorem gw_376 : Cond.methodLink "KeypadWriter$Slots" 52 ⟨"KeypadWriter$Slots", "codeOfLetter", "(I)I"⟩ ∈ gx_G := gx_c2 _ (List.mem_of_getElem? (i := 136) rfl) rfl
theorem gw_377 : Cond.methodLink "KeypadWriter" 141 ⟨"KeypadWriter$State", "places", "()I"⟩ ∈ gx_G := gx_c2 _ (List.mem_of_getElem? (i := 137) rfl) rfl
theorem gw_378 : Cond.methodLink "KeypadWriter" 157 ⟨"KeypadWriter$Slots", "firstOf", "(JI)J"⟩ ∈ gx_G := gx_c2 _ (List.mem_of_getElem? (i := 138) rfl) rfl
theorem gw_379 : Cond.static ⟨"KeypadWriter$Slots", "firstOf", "(JI)J"⟩ ∈ gx_G := gx_c2 _ (List.mem_of_getElem? (i := 139) rfl) rfl
theorem gw_380 : Cond.code ⟨"KeypadWriter$Slots", "firstOf", "(JI)J"⟩ prog_6_method_12_code 6 (Option.some FieldType.long) ∈ gx_G := gx_c2 _ (List.mem_of_getElem? (i := 140) rfl) rfl
theorem gw_381 : Cond.methodLink "KeypadWriterLaw" 153 ⟨"KeypadWriter", "clashing", "()I"⟩ ∈ gx_G := gx_c2 _ (List.mem_of_getElem? (i := 141) rfl) rfl
theorem gw_382 : Cond.instanceMethod ⟨"KeypadWriter", "clashing", "()I"⟩ ∈ gx_G := gx_c2 _ (List.mem_of_getElem? (i := 142) rfl) rfl
theorem gw_383 : Cond.selects "KeypadWriter" ⟨"KeypadWriter", "clashing", "()I"⟩ ⟨"KeypadWriter", "clashing", "()I"⟩ ∈ gx_G := gx_c2 _ (List.mem_of_getElem? (i := 143) rfl) rfl
theorem gw_384 : Cond.code ⟨"KeypadWriter", "clashing", "()I"⟩ prog_1_method_22_code 1 (Option.some FieldType.int) ∈ gx_G := gx_c2 _ (List.mem_of_getElem? (i := 144) rfl) rfl
theorem gw_385 : Cond.methodLink "KeypadWriter" 234 ⟨"KeypadWriter$WordList", "clashes", "()I"⟩ ∈ gx_G := gx_c2 _ (List.mem_of_getElem? (i := 145) rfl) rfl
theorem gw_386 : Cond.instanceMethod ⟨"KeypadWriter$WordList", "clashes", "()I"⟩ ∈ gx_G := gx_c2 _ (List.mem_of_getElem? (i := 146) rfl) rfl
theorem gw_387 : Cond.selects "KeypadWriter$WordList" ⟨"KeypadWriter$WordList", "clashes", "()I"⟩ ⟨"KeypadWriter$WordList", "clashes", "()I"⟩ ∈ gx_G := gx_c2 _ (List.mem_of_getElem? (i := 147) rfl) rfl
theorem gw_388 : Cond.code ⟨"KeypadWriter$WordList", "clashes", "()I"⟩ prog_8_method_24_code 3 (Option.some FieldType.int) ∈ gx_G := gx_c2 _ (List.mem_of_getElem? (i := 148) rfl) rfl
theorem gw_389 : Cond.methodLink "KeypadWriter$WordList" 117 ⟨"KeypadWriter$WordList", "sharesKeys", "(I)Z"⟩ ∈ gx_G := gx_c2 _ (List.mem_of_getElem? (i := 149) rfl) rfl
theorem gw_391 : Cond.instanceMethod ⟨"KeypadWriter$WordList", "sharesKeys", "(I)Z"⟩ ∈ gx_G := gx_c2 _ (List.mem_of_getElem? (i := 151) rfl) rfl
theorem gw_392 : Cond.code ⟨"KeypadWriter$WordList", "sharesKeys", "(I)Z"⟩ prog_8_method_25_code 3 (Option.some FieldType.boolean) ∈ gx_G := gx_c2 _ (List.mem_of_getElem? (i := 152) rfl) rfl
theorem gw_393 : Cond.methodLink "KeypadWriterLaw" 157 ⟨"KeypadWriter", "saving", "()D"⟩ ∈ gx_G := gx_c2 _ (List.mem_of_getElem? (i := 153) rfl) rfl
theorem gw_394 : Cond.instanceMethod ⟨"KeypadWriter", "saving", "()D"⟩ ∈ gx_G := gx_c2 _ (List.mem_of_getElem? (i := 154) rfl) rfl
theorem gw_395 : Cond.selects "KeypadWriter" ⟨"KeypadWriter", "saving", "()D"⟩ ⟨"KeypadWriter", "saving", "()D"⟩ ∈ gx_G := gx_c2 _ (List.mem_of_getElem? (i := 155) rfl) rfl
theorem gw_396 : Cond.code ⟨"KeypadWriter", "saving", "()D"⟩ prog_1_method_23_code 1 (Option.some FieldType.double) ∈ gx_G := gx_c2 _ (List.mem_of_getElem? (i := 156) rfl) rfl
theorem gw_397 : Cond.methodLink "KeypadWriter" 237 ⟨"KeypadWriter$WordList", "savingOfAll", "()D"⟩ ∈ gx_G := gx_c2 _ (List.mem_of_getElem? (i := 157) rfl) rfl
theorem gw_398 : Cond.instanceMethod ⟨"KeypadWriter$WordList", "savingOfAll", "()D"⟩ ∈ gx_G := gx_c2 _ (List.mem_of_getElem? (i := 158) rfl) rfl
theorem gw_399 : Cond.selects "KeypadWriter$WordList" ⟨"KeypadWriter$WordList", "savingOfAll", "()D"⟩ ⟨"KeypadWriter$WordList", "savingOfAll", "()D"⟩ ∈ gx_G := gx_c2 _ (List.mem_of_getElem? (i := 159) rfl) rfl
theorem gw_400 : Cond.code ⟨"KeypadWriter$WordList", "savingOfAll", "()D"⟩ prog_8_method_26_code 10 (Option.some FieldType.double) ∈ gx_G := gx_c2 _ (List.mem_of_getElem? (i := 160) rfl) rfl
theorem gw_401 : Cond.methodLink "KeypadWriter$WordList" 53 ⟨"KeypadWriter$WordList", "countAt", "(I)I"⟩ ∈ gx_G := gx_c2 _ (List.mem_of_getElem? (i := 161) rfl) rfl
theorem gw_402 : Cond.instanceMethod ⟨"KeypadWriter$WordList", "countAt", "(I)I"⟩ ∈ gx_G := gx_c2 _ (List.mem_of_getElem? (i := 162) rfl) rfl
theorem gw_403 : Cond.selects "KeypadWriter$WordList" ⟨"KeypadWriter$WordList", "countAt", "(I)I"⟩ ⟨"KeypadWriter$WordList", "countAt", "(I)I"⟩ ∈ gx_G := gx_c2 _ (List.mem_of_getElem? (i := 163) rfl) rfl
theorem gw_404 : Cond.code ⟨"KeypadWriter$WordList", "countAt", "(I)I"⟩ prog_8_method_8_code 2 (Option.some FieldType.int) ∈ gx_G := gx_c2 _ (List.mem_of_getElem? (i := 164) rfl) rfl
theorem gw_405 : Cond.methodLink "KeypadWriter$WordList" 120 ⟨"KeypadWriter$WordList", "tapsFor", "(I)I"⟩ ∈ gx_G := gx_c2 _ (List.mem_of_getElem? (i := 165) rfl) rfl
theorem gw_406 : Cond.instanceMethod ⟨"KeypadWriter$WordList", "tapsFor", "(I)I"⟩ ∈ gx_G := gx_c2 _ (List.mem_of_getElem? (i := 166) rfl) rfl
theorem gw_407 : Cond.selects "KeypadWriter$WordList" ⟨"KeypadWriter$WordList", "tapsFor", "(I)I"⟩ ⟨"KeypadWriter$WordList", "tapsFor", "(I)I"⟩ ∈ gx_G := gx_c2 _ (List.mem_of_getElem? (i := 167) rfl) rfl
theorem gw_408 : Cond.code ⟨"KeypadWriter$WordList", "tapsFor", "(I)I"⟩ prog_8_method_23_code 9 (Option.some FieldType.int) ∈ gx_G := gx_c2 _ (List.mem_of_getElem? (i := 168) rfl) rfl
theorem gw_409 : Cond.methodLink "KeypadWriter$WordList" 49 ⟨"KeypadWriter$Slots", "lengthOf", "(J)I"⟩ ∈ gx_G := gx_c2 _ (List.mem_of_getElem? (i := 169) rfl) rfl
theorem gw_410 : Cond.methodLink "KeypadWriter$WordList" 109 ⟨"KeypadWriter$Slots", "letterAt", "(JI)I"⟩ ∈ gx_G := gx_c2 _ (List.mem_of_getElem? (i := 170) rfl) rfl
theorem gw_411 : Cond.methodLink "KeypadWriter$WordList" 112 ⟨"KeypadWriter$Keys", "tapsOf", "(I)I"⟩ ∈ gx_G := gx_c2 _ (List.mem_of_getElem? (i := 171) rfl) rfl
theorem gw_412 : Cond.static ⟨"KeypadWriter$Keys", "tapsOf", "(I)I"⟩ ∈ gx_G := gx_c2 _ (List.mem_of_getElem? (i := 172) rfl) rfl
theorem gw_413 : Cond.code ⟨"KeypadWriter$Keys", "tapsOf", "(I)I"⟩ prog_3_method_6_code 1 (Option.some FieldType.int) ∈ gx_G := gx_c2 _ (List.mem_of_getElem? (i := 173) rfl) rfl
theorem gw_414 : Cond.methodLink "KeypadWriter$Keys" 22 ⟨"KeypadWriter$Keys", "keyWith", "(I)I"⟩ ∈ gx_G := gx_c2 _ (List.mem_of_getElem? (i := 174) rfl) rfl
theorem gw_415 : Cond.methodLink "KeypadWriter$Keys" 26 ⟨"KeypadWriter$Keys", "firstLetter", "(I)I"⟩ ∈ gx_G := gx_c2 _ (List.mem_of_getElem? (i := 175) rfl) rfl
theorem gw_416 : Cond.methodLink "KeypadWriter$WordList" 123 ⟨"KeypadWriter$WordList", "guessesFor", "(I)I"⟩ ∈ gx_G := gx_c2 _ (List.mem_of_getElem? (i := 176) rfl) rfl
theorem gw_417 : Cond.instanceMethod ⟨"KeypadWriter$WordList", "guessesFor", "(I)I"⟩ ∈ gx_G := gx_c2 _ (List.mem_of_getElem? (i := 177) rfl) rfl
theorem gw_418 : Cond.selects "KeypadWriter$WordList" ⟨"KeypadWriter$WordList", "guessesFor", "(I)I"⟩ ⟨"KeypadWriter$WordList", "guessesFor", "(I)I"⟩ ∈ gx_G := gx_c2 _ (List.mem_of_getElem? (i := 178) rfl) rfl
theorem gw_419 : Cond.code ⟨"KeypadWriter$WordList", "guessesFor", "(I)I"⟩ prog_8_method_22_code 2 (Option.some FieldType.int) ∈ gx_G := gx_c2 _ (List.mem_of_getElem? (i := 179) rfl) rfl
theorem gw_420 : Cond.methodLink "KeypadWriter$WordList" 106 ⟨"KeypadWriter$WordList", "stepsTo", "(I)I"⟩ ∈ gx_G := gx_c2 _ (List.mem_of_getElem? (i := 180) rfl) rfl
theorem gw_421 : Cond.instanceMethod ⟨"KeypadWriter$WordList", "stepsTo", "(I)I"⟩ ∈ gx_G := gx_c2 _ (List.mem_of_getElem? (i := 181) rfl) rfl
theorem gw_422 : Cond.selects "KeypadWriter$WordList" ⟨"KeypadWriter$WordList", "stepsTo", "(I)I"⟩ ⟨"KeypadWriter$WordList", "stepsTo", "(I)I"⟩ ∈ gx_G := gx_c2 _ (List.mem_of_getElem? (i := 182) rfl) rfl
theorem gw_423 : Cond.code ⟨"KeypadWriter$WordList", "stepsTo", "(I)I"⟩ prog_8_method_21_code 4 (Option.some FieldType.int) ∈ gx_G := gx_c2 _ (List.mem_of_getElem? (i := 183) rfl) rfl
theorem gw_424 : Cond.methodLink "KeypadWriter$WordList" 66 ⟨"KeypadWriter$WordList", "ranksBefore", "(II)Z"⟩ ∈ gx_G := gx_c2 _ (List.mem_of_getElem? (i := 184) rfl) rfl
theorem gw_425 : Cond.methodLink "KeypadWriterLaw" 168 ⟨"KeypadWriter", "digest", "()J"⟩ ∈ gx_G := gx_c2 _ (List.mem_of_getElem? (i := 185) rfl) rfl
theorem gw_426 : Cond.instanceMethod ⟨"KeypadWriter", "digest", "()J"⟩ ∈ gx_G := gx_c2 _ (List.mem_of_getElem? (i := 186) rfl) rfl
theorem gw_427 : Cond.selects "KeypadWriter" ⟨"KeypadWriter", "digest", "()J"⟩ ⟨"KeypadWriter", "digest", "()J"⟩ ∈ gx_G := gx_c2 _ (List.mem_of_getElem? (i := 187) rfl) rfl
theorem gw_428 : Cond.code ⟨"KeypadWriter", "digest", "()J"⟩ prog_1_method_26_code 7 (Option.some FieldType.long) ∈ gx_G := gx_c2 _ (List.mem_of_getElem? (i := 188) rfl) rfl
theorem gw_429 : Cond.constantLong "KeypadWriter" 254 (3271 : Int64) ∈ gx_G := gx_c2 _ (List.mem_of_getElem? (i := 189) rfl) rfl
theorem gw_430 : Cond.methodLink "KeypadWriter" 256 ⟨"KeypadWriter", "mixed", "(JI)J"⟩ ∈ gx_G := gx_c2 _ (List.mem_of_getElem? (i := 190) rfl) rfl
theorem gw_431 : Cond.static ⟨"KeypadWriter", "mixed", "(JI)J"⟩ ∈ gx_G := gx_c2 _ (List.mem_of_getElem? (i := 191) rfl) rfl
theorem gw_432 : Cond.code ⟨"KeypadWriter", "mixed", "(JI)J"⟩ prog_1_method_29_code 3 (Option.some FieldType.long) ∈ gx_G := gx_c2 _ (List.mem_of_getElem? (i := 192) rfl) rfl
theorem gw_433 : Cond.constantLong "KeypadWriter" 266 (31 : Int64) ∈ gx_G := gx_c2 _ (List.mem_of_getElem? (i := 193) rfl) rfl
theorem gw_434 : Cond.methodLink "KeypadWriter" 205 ⟨"KeypadWriter", "settingOf", "(I)I"⟩ ∈ gx_G := gx_c2 _ (List.mem_of_getElem? (i := 194) rfl) rfl
theorem gw_436 : Cond.instanceMethod ⟨"KeypadWriter", "settingOf", "(I)I"⟩ ∈ gx_G := gx_c2 _ (List.mem_of_getElem? (i := 196) rfl) rfl
theorem gw_437 : Cond.code ⟨"KeypadWriter", "settingOf", "(I)I"⟩ prog_1_method_30_code 2 (Option.some FieldType.int) ∈ gx_G := gx_c2 _ (List.mem_of_getElem? (i := 197) rfl) rfl
theorem gw_438 : Cond.methodLink "KeypadWriter" 259 ⟨"KeypadWriter", "mixedWord", "(JI)J"⟩ ∈ gx_G := gx_c2 _ (List.mem_of_getElem? (i := 198) rfl) rfl
theorem gw_440 : Cond.instanceMethod ⟨"KeypadWriter", "mixedWord", "(JI)J"⟩ ∈ gx_G := gx_c2 _ (List.mem_of_getElem? (i := 200) rfl) rfl
theorem gw_441 : Cond.code ⟨"KeypadWriter", "mixedWord", "(JI)J"⟩ prog_1_method_27_code 7 (Option.some FieldType.long) ∈ gx_G := gx_c2 _ (List.mem_of_getElem? (i := 201) rfl) rfl
theorem gw_442 : Cond.methodLink "KeypadWriter" 112 ⟨"KeypadWriter$WordList", "valueOf", "(II)I"⟩ ∈ gx_G := gx_c2 _ (List.mem_of_getElem? (i := 202) rfl) rfl
theorem gw_443 : Cond.instanceMethod ⟨"KeypadWriter$WordList", "valueOf", "(II)I"⟩ ∈ gx_G := gx_c2 _ (List.mem_of_getElem? (i := 203) rfl) rfl
theorem gw_444 : Cond.selects "KeypadWriter$WordList" ⟨"KeypadWriter$WordList", "valueOf", "(II)I"⟩ ⟨"KeypadWriter$WordList", "valueOf", "(II)I"⟩ ∈ gx_G := gx_c2 _ (List.mem_of_getElem? (i := 204) rfl) rfl
theorem gw_445 : Cond.code ⟨"KeypadWriter$WordList", "valueOf", "(II)I"⟩ prog_8_method_11_code 3 (Option.some FieldType.int) ∈ gx_G := gx_c2 _ (List.mem_of_getElem? (i := 205) rfl) rfl
theorem gw_446 : Cond.methodLink "KeypadWriter$WordList" 57 ⟨"KeypadWriter$WordList", "timeAt", "(I)I"⟩ ∈ gx_G := gx_c2 _ (List.mem_of_getElem? (i := 206) rfl) rfl
theorem gw_447 : Cond.instanceMethod ⟨"KeypadWriter$WordList", "timeAt", "(I)I"⟩ ∈ gx_G := gx_c2 _ (List.mem_of_getElem? (i := 207) rfl) rfl
theorem gw_448 : Cond.selects "KeypadWriter$WordList" ⟨"KeypadWriter$WordList", "timeAt", "(I)I"⟩ ⟨"KeypadWriter$WordList", "timeAt", "(I)I"⟩ ∈ gx_G := gx_c2 _ (List.mem_of_getElem? (i := 208) rfl) rfl
theorem gw_449 : Cond.code ⟨"KeypadWriter$WordList", "timeAt", "(I)I"⟩ prog_8_method_9_code 2 (Option.some FieldType.int) ∈ gx_G := gx_c2 _ (List.mem_of_getElem? (i := 209) rfl) rfl
theorem gw_450 : Cond.methodLink "KeypadWriter$WordList" 60 ⟨"KeypadWriter$WordList", "isAdded", "(I)Z"⟩ ∈ gx_G := gx_c2 _ (List.mem_of_getElem? (i := 210) rfl) rfl
theorem gw_451 : Cond.instanceMethod ⟨"KeypadWriter$WordList", "isAdded", "(I)Z"⟩ ∈ gx_G := gx_c2 _ (List.mem_of_getElem? (i := 211) rfl) rfl
theorem gw_452 : Cond.selects "KeypadWriter$WordList" ⟨"KeypadWriter$WordList", "isAdded", "(I)Z"⟩ ⟨"KeypadWriter$WordList", "isAdded", "(I)Z"⟩ ∈ gx_G := gx_c2 _ (List.mem_of_getElem? (i := 212) rfl) rfl
theorem gw_453 : Cond.code ⟨"KeypadWriter$WordList", "isAdded", "(I)Z"⟩ prog_8_method_10_code 2 (Option.some FieldType.boolean) ∈ gx_G := gx_c2 _ (List.mem_of_getElem? (i := 213) rfl) rfl
theorem gw_454 : Cond.methodLink "KeypadWriter$WordList" 63 ⟨"KeypadWriter$WordList", "rankOf", "(I)I"⟩ ∈ gx_G := gx_c2 _ (List.mem_of_getElem? (i := 214) rfl) rfl
theorem gw_455 : Cond.instanceMethod ⟨"KeypadWriter$WordList", "rankOf", "(I)I"⟩ ∈ gx_G := gx_c2 _ (List.mem_of_getElem? (i := 215) rfl) rfl
theorem gw_456 : Cond.selects "KeypadWriter$WordList" ⟨"KeypadWriter$WordList", "rankOf", "(I)I"⟩ ⟨"KeypadWriter$WordList", "rankOf", "(I)I"⟩ ∈ gx_G := gx_c2 _ (List.mem_of_getElem? (i := 216) rfl) rfl
theorem gw_457 : Cond.code ⟨"KeypadWriter$WordList", "rankOf", "(I)I"⟩ prog_8_method_14_code 4 (Option.some FieldType.int) ∈ gx_G := gx_c2 _ (List.mem_of_getElem? (i := 217) rfl) rfl
theorem gw_458 : Cond.methodLink "KeypadWriter" 262 ⟨"KeypadWriter", "mixedLetters", "(JJ)J"⟩ ∈ gx_G := gx_c2 _ (List.mem_of_getElem? (i := 218) rfl) rfl
theorem gw_459 : Cond.static ⟨"KeypadWriter", "mixedLetters", "(JJ)J"⟩ ∈ gx_G := gx_c2 _ (List.mem_of_getElem? (i := 219) rfl) rfl
theorem gw_460 : Cond.code ⟨"KeypadWriter", "mixedLetters", "(JJ)J"⟩ prog_1_method_28_code 8 (Option.some FieldType.long) ∈ gx_G := gx_c2 _ (List.mem_of_getElem? (i := 220) rfl) rfl
theorem gw_461 : Cond.methodLink "KeypadWriter" 221 ⟨"KeypadWriter$Slots", "lengthOf", "(J)I"⟩ ∈ gx_G := gx_c2 _ (List.mem_of_getElem? (i := 221) rfl) rfl
theorem gw_462 : Cond.methodLink "KeypadWriter" 127 ⟨"KeypadWriter$Slots", "letterAt", "(JI)I"⟩ ∈ gx_G := gx_c2 _ (List.mem_of_getElem? (i := 222) rfl) rfl
theorem gw_463 : Cond.methodLink "KeypadWriter" 225 ⟨"KeypadWriter$WordList", "stepsTo", "(I)I"⟩ ∈ gx_G := gx_c2 _ (List.mem_of_getElem? (i := 223) rfl) rfl
theorem gw_464 : Cond.methodLink "KeypadWriter" 211 ⟨"KeypadWriter", "placeValue", "(I)I"⟩ ∈ gx_G := gx_c2 _ (List.mem_of_getElem? (i := 224) rfl) rfl
theorem gw_466 : Cond.instanceMethod ⟨"KeypadWriter", "placeValue", "(I)I"⟩ ∈ gx_G := gx_c2 _ (List.mem_of_getElem? (i := 226) rfl) rfl
theorem gw_467 : Cond.code ⟨"KeypadWriter", "placeValue", "(I)I"⟩ prog_1_method_31_code 3 (Option.some FieldType.int) ∈ gx_G := gx_c2 _ (List.mem_of_getElem? (i := 227) rfl) rfl
theorem gw_468 : Cond.methodLink "KeypadWriter" 271 ⟨"KeypadWriter$Slots", "codeAt", "(JI)I"⟩ ∈ gx_G := gx_c2 _ (List.mem_of_getElem? (i := 228) rfl) rfl
theorem gw_469 : Cond.methodLink "KeypadWriter" 274 ⟨"KeypadWriter$Slots", "isLetter", "(I)Z"⟩ ∈ gx_G := gx_c2 _ (List.mem_of_getElem? (i := 229) rfl) rfl
theorem gw_470 : Cond.methodLink "KeypadWriter" 277 ⟨"KeypadWriter$Slots", "letterOf", "(I)I"⟩ ∈ gx_G := gx_c2 _ (List.mem_of_getElem? (i := 230) rfl) rfl
theorem gw_471 : Cond.methodLink "KeypadWriter" 280 ⟨"KeypadWriter$Slots", "keyOf", "(I)I"⟩ ∈ gx_G := gx_c2 _ (List.mem_of_getElem? (i := 231) rfl) rfl
theorem gw_472 : Cond.methodLink "KeypadWriter" 220 ⟨"KeypadWriter$WrittenText", "wordAt", "(I)J"⟩ ∈ gx_G := gx_c2 _ (List.mem_of_getElem? (i := 232) rfl) rfl
theorem gw_473 : Cond.instanceMethod ⟨"KeypadWriter$WrittenText", "wordAt", "(I)J"⟩ ∈ gx_G := gx_c2 _ (List.mem_of_getElem? (i := 233) rfl) rfl
theorem gw_474 : Cond.selects "KeypadWriter$WrittenText" ⟨"KeypadWriter$WrittenText", "wordAt", "(I)J"⟩ ⟨"KeypadWriter$WrittenText", "wordAt", "(I)J"⟩ ∈ gx_G := gx_c2 _ (List.mem_of_getElem? (i := 234) rfl) rfl
theorem gw_475 : Cond.code ⟨"KeypadWriter$WrittenText", "wordAt", "(I)J"⟩ prog_9_method_4_code 2 (Option.some FieldType.long) ∈ gx_G := gx_c2 _ (List.mem_of_getElem? (i := 235) rfl) rfl
theorem gw_476 : Cond.methodLink "KeypadWriter$WrittenText" 25 ⟨"KeypadWriter$WrittenText", "has", "(I)Z"⟩ ∈ gx_G := gx_c2 _ (List.mem_of_getElem? (i := 236) rfl) rfl
theorem gw_477 : Cond.instanceMethod ⟨"KeypadWriter$WrittenText", "has", "(I)Z"⟩ ∈ gx_G := gx_c2 _ (List.mem_of_getElem? (i := 237) rfl) rfl
theorem gw_478 : Cond.selects "KeypadWriter$WrittenText" ⟨"KeypadWriter$WrittenText", "has", "(I)Z"⟩ ⟨"KeypadWriter$WrittenText", "has", "(I)Z"⟩ ∈ gx_G := gx_c2 _ (List.mem_of_getElem? (i := 238) rfl) rfl
theorem gw_479 : Cond.code ⟨"KeypadWriter$WrittenText", "has", "(I)Z"⟩ prog_9_method_3_code 2 (Option.some FieldType.boolean) ∈ gx_G := gx_c2 _ (List.mem_of_getElem? (i := 239) rfl) rfl
theorem gw_480 : Cond.methodLink "KeypadWriterLaw" 78 ⟨"KeypadWriterLaw", "append", "(LKeypadWriter;I[J)I"⟩ ∈ gx_G := gx_c3 _ (List.mem_of_getElem? (i := 0) rfl) rfl
theorem gw_481 : Cond.static ⟨"KeypadWriterLaw", "append", "(LKeypadWriter;I[J)I"⟩ ∈ gx_G := gx_c3 _ (List.mem_of_getElem? (i := 1) rfl) rfl
theorem gw_482 : Cond.codeWith ⟨"KeypadWriterLaw", "append", "(LKeypadWriter;I[J)I"⟩ method_3_code 4 (Option.some FieldType.int) [(0, 9, 12, 13), (0, 9, 15, 15)] ∈ gx_G := gx_c3 _ (List.mem_of_getElem? (i := 2) rfl) rfl
theorem gw_483 : Cond.classLink "KeypadWriterLaw" 13 "java/lang/IllegalArgumentException" ∈ gx_G := gx_c3 _ (List.mem_of_getElem? (i := 3) rfl) rfl
theorem gw_484 : Cond.classLink "KeypadWriterLaw" 15 "java/lang/IllegalStateException" ∈ gx_G := gx_c3 _ (List.mem_of_getElem? (i := 4) rfl) rfl
theorem gw_485 : Cond.methodLink "KeypadWriterLaw" 7 ⟨"KeypadWriter", "append", "(I)I"⟩ ∈ gx_G := gx_c3 _ (List.mem_of_getElem? (i := 5) rfl) rfl
theorem gw_486 : Cond.instanceMethod ⟨"KeypadWriter", "append", "(I)I"⟩ ∈ gx_G := gx_c3 _ (List.mem_of_getElem? (i := 6) rfl) rfl
theorem gw_487 : Cond.selects "KeypadWriter" ⟨"KeypadWriter", "append", "(I)I"⟩ ⟨"KeypadWriter", "append", "(I)I"⟩ ∈ gx_G := gx_c3 _ (List.mem_of_getElem? (i := 7) rfl) rfl
theorem gw_488 : Cond.code ⟨"KeypadWriter", "append", "(I)I"⟩ prog_1_method_2_code 2 (Option.some FieldType.int) ∈ gx_G := gx_c3 _ (List.mem_of_getElem? (i := 8) rfl) rfl
theorem gw_489 : Cond.classLink "KeypadWriter" 44 "java/lang/IllegalArgumentException" ∈ gx_G := gx_c3 _ (List.mem_of_getElem? (i := 9) rfl) rfl
theorem gw_490 : Cond.instantiable "java/lang/IllegalArgumentException" 6 ∈ gx_G := gx_c3 _ (List.mem_of_getElem? (i := 10) rfl) rfl
theorem gw_498 : Cond.selects "java/lang/IllegalArgumentException" ⟨"java/lang/Throwable", "fillInStackTrace", "(I)Ljava/lang/Throwable;"⟩ ⟨"java/lang/Throwable", "fillInStackTrace", "(I)Ljava/lang/Throwable;"⟩ ∈ gx_G := gx_c3 _ (List.mem_of_getElem? (i := 18) rfl) rfl
theorem gw_499 : Cond.selects "java/lang/IllegalArgumentException" ⟨"java/lang/Throwable", "fillInStackTrace", "()Ljava/lang/Throwable;"⟩ ⟨"java/lang/Throwable", "fillInStackTrace", "()Ljava/lang/Throwable;"⟩ ∈ gx_G := gx_c3 _ (List.mem_of_getElem? (i := 19) rfl) rfl
theorem gw_500 : Cond.lays "java/lang/IllegalArgumentException" "java/lang/Throwable" "cause" "Ljava/lang/Throwable;" ∈ gx_G := gx_c3 _ (List.mem_of_getElem? (i := 20) rfl) rfl
theorem gw_501 : Cond.lays "java/lang/Throwable" "java/lang/Throwable" "cause" "Ljava/lang/Throwable;" ∈ gx_G := gx_c3 _ (List.mem_of_getElem? (i := 21) rfl) rfl
theorem gw_502 : Cond.lays "java/lang/IllegalArgumentException" "java/lang/Throwable" "stackTrace" "[Ljava/lang/StackTraceElement;" ∈ gx_G := gx_c3 _ (List.mem_of_getElem? (i := 22) rfl) rfl
theorem gw_503 : Cond.lays "java/lang/Throwable" "java/lang/Throwable" "stackTrace" "[Ljava/lang/StackTraceElement;" ∈ gx_G := gx_c3 _ (List.mem_of_getElem? (i := 23) rfl) rfl
theorem gw_504 : Cond.lays "java/lang/IllegalArgumentException" "java/lang/Throwable" "suppressedExceptions" "Ljava/util/List;" ∈ gx_G := gx_c3 _ (List.mem_of_getElem? (i := 24) rfl) rfl
theorem gw_505 : Cond.lays "java/lang/Throwable" "java/lang/Throwable" "suppressedExceptions" "Ljava/util/List;" ∈ gx_G := gx_c3 _ (List.mem_of_getElem? (i := 25) rfl) rfl
theorem gw_506 : Cond.lays "java/lang/IllegalArgumentException" "java/lang/Throwable" "detailMessage" "Ljava/lang/String;" ∈ gx_G := gx_c3 _ (List.mem_of_getElem? (i := 26) rfl) rfl
theorem gw_507 : Cond.lays "java/lang/Throwable" "java/lang/Throwable" "detailMessage" "Ljava/lang/String;" ∈ gx_G := gx_c3 _ (List.mem_of_getElem? (i := 27) rfl) rfl
theorem gw_508 : Cond.lays "java/lang/IllegalArgumentException" "java/lang/Throwable" "backtrace" "Ljava/lang/Object;" ∈ gx_G := gx_c3 _ (List.mem_of_getElem? (i := 28) rfl) rfl
theorem gw_509 : Cond.lays "java/lang/Throwable" "java/lang/Throwable" "backtrace" "Ljava/lang/Object;" ∈ gx_G := gx_c3 _ (List.mem_of_getElem? (i := 29) rfl) rfl
theorem gw_510 : Cond.fieldLink "java/lang/Throwable" 198 "java/lang/Throwable" "backtrace" "Ljava/lang/Object;" ∈ gx_G := gx_c3 _ (List.mem_of_getElem? (i := 30) rfl) rfl
theorem gw_511 : Cond.superclass "java/lang/Throwable" "java/lang/Object" ∈ gx_G := gx_c3 _ (List.mem_of_getElem? (i := 31) rfl) rfl
theorem gw_512 : Cond.instanceMethod ⟨"java/lang/Throwable", "<init>", "()V"⟩ ∈ gx_G := gx_c3 _ (List.mem_of_getElem? (i := 32) rfl) rfl
theorem gw_513 : Cond.code ⟨"java/lang/Throwable", "<init>", "()V"⟩ prog_20_method_1_code 1 none ∈ gx_G := gx_c3 _ (List.mem_of_getElem? (i := 33) rfl) rfl
theorem gw_514 : Cond.methodLink "java/lang/Throwable" 1 ⟨"java/lang/Object", "<init>", "()V"⟩ ∈ gx_G := gx_c3 _ (List.mem_of_getElem? (i := 34) rfl) rfl
theorem gw_515 : Cond.fieldLink "java/lang/Throwable" 13 "java/lang/Throwable" "UNASSIGNED_STACK" "[Ljava/lang/StackTraceElement;" ∈ gx_G := gx_c3 _ (List.mem_of_getElem? (i := 35) rfl) rfl
theorem gw_517 : Cond.fieldLink "java/lang/Throwable" 20 "java/lang/Throwable" "SUPPRESSED_SENTINEL" "Ljava/util/List;" ∈ gx_G := gx_c3 _ (List.mem_of_getElem? (i := 37) rfl) rfl
theorem gw_519 : Cond.methodLink "java/lang/Throwable" 27 ⟨"java/lang/Throwable", "fillInStackTrace", "()Ljava/lang/Throwable;"⟩ ∈ gx_G := gx_c3 _ (List.mem_of_getElem? (i := 39) rfl) rfl
theorem gw_520 : Cond.instanceMethod ⟨"java/lang/Throwable", "fillInStackTrace", "()Ljava/lang/Throwable;"⟩ ∈ gx_G := gx_c3 _ (List.mem_of_getElem? (i := 40) rfl) rfl
theorem gw_522 : Cond.selects "java/lang/IllegalStateException" ⟨"java/lang/Throwable", "fillInStackTrace", "()Ljava/lang/Throwable;"⟩ ⟨"java/lang/Throwable", "fillInStackTrace", "()Ljava/lang/Throwable;"⟩ ∈ gx_G := gx_c3 _ (List.mem_of_getElem? (i := 42) rfl) rfl
theorem gw_523 : Cond.selects "java/lang/IndexOutOfBoundsException" ⟨"java/lang/Throwable", "fillInStackTrace", "()Ljava/lang/Throwable;"⟩ ⟨"java/lang/Throwable", "fillInStackTrace", "()Ljava/lang/Throwable;"⟩ ∈ gx_G := gx_c3 _ (List.mem_of_getElem? (i := 43) rfl) rfl
theorem gw_525 : Cond.methodLink "java/lang/Throwable" 202 ⟨"java/lang/Throwable", "fillInStackTrace", "(I)Ljava/lang/Throwable;"⟩ ∈ gx_G := gx_c3 _ (List.mem_of_getElem? (i := 45) rfl) rfl
theorem gw_527 : Cond.instanceMethod ⟨"java/lang/Throwable", "fillInStackTrace", "(I)Ljava/lang/Throwable;"⟩ ∈ gx_G := gx_c3 _ (List.mem_of_getElem? (i := 47) rfl) rfl
theorem gw_528 : Cond.instantiable "java/lang/Throwable" 6 ∈ gx_G := gx_c3 _ (List.mem_of_getElem? (i := 48) rfl) rfl
theorem gw_531 : Cond.methodLink "KeypadWriter" 48 ⟨"java/lang/IllegalArgumentException", "<init>", "(Ljava/lang/String;)V"⟩ ∈ gx_G := gx_c3 _ (List.mem_of_getElem? (i := 51) rfl) rfl
theorem gw_532 : Cond.instanceMethod ⟨"java/lang/IllegalArgumentException", "<init>", "(Ljava/lang/String;)V"⟩ ∈ gx_G := gx_c3 _ (List.mem_of_getElem? (i := 52) rfl) rfl
theorem gw_533 : Cond.code ⟨"java/lang/IllegalArgumentException", "<init>", "(Ljava/lang/String;)V"⟩ prog_13_method_2_code 2 none ∈ gx_G := gx_c3 _ (List.mem_of_getElem? (i := 53) rfl) rfl
theorem gw_534 : Cond.methodLink "java/lang/IllegalArgumentException" 7 ⟨"java/lang/RuntimeException", "<init>", "(Ljava/lang/String;)V"⟩ ∈ gx_G := gx_c3 _ (List.mem_of_getElem? (i := 54) rfl) rfl
theorem gw_535 : Cond.instanceMethod ⟨"java/lang/RuntimeException", "<init>", "(Ljava/lang/String;)V"⟩ ∈ gx_G := gx_c3 _ (List.mem_of_getElem? (i := 55) rfl) rfl
theorem gw_536 : Cond.code ⟨"java/lang/RuntimeException", "<init>", "(Ljava/lang/String;)V"⟩ prog_17_method_2_code 2 none ∈ gx_G := gx_c3 _ (List.mem_of_getElem? (i := 56) rfl) rfl
theorem gw_537 : Cond.methodLink "java/lang/RuntimeException" 7 ⟨"java/lang/Exception", "<init>", "(Ljava/lang/String;)V"⟩ ∈ gx_G := gx_c3 _ (List.mem_of_getElem? (i := 57) rfl) rfl
theorem gw_538 : Cond.instanceMethod ⟨"java/lang/Exception", "<init>", "(Ljava/lang/String;)V"⟩ ∈ gx_G := gx_c3 _ (List.mem_of_getElem? (i := 58) rfl) rfl
theorem gw_539 : Cond.code ⟨"java/lang/Exception", "<init>", "(Ljava/lang/String;)V"⟩ prog_12_method_2_code 2 none ∈ gx_G := gx_c3 _ (List.mem_of_getElem? (i := 59) rfl) rfl
theorem gw_540 : Cond.methodLink "java/lang/Exception" 7 ⟨"java/lang/Throwable", "<init>", "(Ljava/lang/String;)V"⟩ ∈ gx_G := gx_c3 _ (List.mem_of_getElem? (i := 60) rfl) rfl
theorem gw_541 : Cond.instanceMethod ⟨"java/lang/Throwable", "<init>", "(Ljava/lang/String;)V"⟩ ∈ gx_G := gx_c3 _ (List.mem_of_getElem? (i := 61) rfl) rfl
theorem gw_542 : Cond.code ⟨"java/lang/Throwable", "<init>", "(Ljava/lang/String;)V"⟩ prog_20_method_2_code 2 none ∈ gx_G := gx_c3 _ (List.mem_of_getElem? (i := 62) rfl) rfl
theorem gw_543 : Cond.fieldLink "java/lang/Throwable" 198 "java/lang/Throwable" "backtrace" "Ljava/lang/Object;" ∈ gx_G := gx_c3 _ (List.mem_of_getElem? (i := 63) rfl) rfl
theorem gw_544 : Cond.fieldLink "java/lang/Throwable" 31 "java/lang/Throwable" "detailMessage" "Ljava/lang/String;" ∈ gx_G := gx_c3 _ (List.mem_of_getElem? (i := 64) rfl) rfl
theorem gw_545 : Cond.fieldLink "java/lang/Throwable" 7 "java/lang/Throwable" "cause" "Ljava/lang/Throwable;" ∈ gx_G := gx_c3 _ (List.mem_of_getElem? (i := 65) rfl) rfl
theorem gw_546 : Cond.fieldLink "java/lang/Throwable" 17 "java/lang/Throwable" "stackTrace" "[Ljava/lang/StackTraceElement;" ∈ gx_G := gx_c3 _ (List.mem_of_getElem? (i := 66) rfl) rfl
theorem gw_547 : Cond.fieldLink "java/lang/Throwable" 24 "java/lang/Throwable" "suppressedExceptions" "Ljava/util/List;" ∈ gx_G := gx_c3 _ (List.mem_of_getElem? (i := 67) rfl) rfl
theorem gw_548 : Cond.soleField "java/lang/Throwable" "backtrace" ∈ gx_G := gx_c3 _ (List.mem_of_getElem? (i := 68) rfl) rfl
theorem gw_549 : Cond.soleField "java/lang/Throwable" "detailMessage" ∈ gx_G := gx_c3 _ (List.mem_of_getElem? (i := 69) rfl) rfl
theorem gw_550 : Cond.soleField "java/lang/Throwable" "cause" ∈ gx_G := gx_c3 _ (List.mem_of_getElem? (i := 70) rfl) rfl
theorem gw_551 : Cond.soleField "java/lang/Throwable" "stackTrace" ∈ gx_G := gx_c3 _ (List.mem_of_getElem? (i := 71) rfl) rfl
theorem gw_552 : Cond.lays "java/lang/IllegalArgumentException" "java/lang/Throwable" "depth" "I" ∈ gx_G := gx_c3 _ (List.mem_of_getElem? (i := 72) rfl) rfl
theorem gw_553 : Cond.soleField "java/lang/Throwable" "depth" ∈ gx_G := gx_c3 _ (List.mem_of_getElem? (i := 73) rfl) rfl
theorem gw_554 : Cond.soleField "java/lang/Throwable" "suppressedExceptions" ∈ gx_G := gx_c3 _ (List.mem_of_getElem? (i := 74) rfl) rfl
theorem gw_555 : Cond.superclass "java/lang/IllegalArgumentException" "java/lang/RuntimeException" ∈ gx_G := gx_c3 _ (List.mem_of_getElem? (i := 75) rfl) rfl
theorem gw_556 : Cond.arrayClass FieldType.byte ∈ gx_G := gx_c3 _ (List.mem_of_getElem? (i := 76) rfl) rfl
theorem gw_557 : Cond.methodLink "KeypadWriter" 51 ⟨"KeypadWriter$ListText", "isFull", "()Z"⟩ ∈ gx_G := gx_c3 _ (List.mem_of_getElem? (i := 77) rfl) rfl
theorem gw_558 : Cond.instanceMethod ⟨"KeypadWriter$ListText", "isFull", "()Z"⟩ ∈ gx_G := gx_c3 _ (List.mem_of_getElem? (i := 78) rfl) rfl
theorem gw_559 : Cond.selects "KeypadWriter$ListText" ⟨"KeypadWriter$ListText", "isFull", "()Z"⟩ ⟨"KeypadWriter$ListText", "isFull", "()Z"⟩ ∈ gx_G := gx_c3 _ (List.mem_of_getElem? (i := 79) rfl) rfl
theorem gw_560 : Cond.code ⟨"KeypadWriter$ListText", "isFull", "()Z"⟩ prog_4_method_2_code 1 (Option.some FieldType.boolean) ∈ gx_G := gx_c3 _ (List.mem_of_getElem? (i := 80) rfl) rfl
theorem gw_561 : Cond.classLink "KeypadWriter" 55 "java/lang/IllegalStateException" ∈ gx_G := gx_c3 _ (List.mem_of_getElem? (i := 81) rfl) rfl
theorem gw_562 : Cond.instantiable "java/lang/IllegalStateException" 6 ∈ gx_G := gx_c3 _ (List.mem_of_getElem? (i := 82) rfl) rfl
theorem gw_564 : Cond.selects "java/lang/IllegalStateException" ⟨"java/lang/Throwable", "fillInStackTrace", "(I)Ljava/lang/Throwable;"⟩ ⟨"java/lang/Throwable", "fillInStackTrace", "(I)Ljava/lang/Throwable;"⟩ ∈ gx_G := gx_c3 _ (List.mem_of_getElem? (i := 84) rfl) rfl
theorem gw_565 : Cond.lays "java/lang/IllegalStateException" "java/lang/Throwable" "cause" "Ljava/lang/Throwable;" ∈ gx_G := gx_c3 _ (List.mem_of_getElem? (i := 85) rfl) rfl
theorem gw_566 : Cond.lays "java/lang/IllegalStateException" "java/lang/Throwable" "stackTrace" "[Ljava/lang/StackTraceElement;" ∈ gx_G := gx_c3 _ (List.mem_of_getElem? (i := 86) rfl) rfl
theorem gw_567 : Cond.lays "java/lang/IllegalStateException" "java/lang/Throwable" "suppressedExceptions" "Ljava/util/List;" ∈ gx_G := gx_c3 _ (List.mem_of_getElem? (i := 87) rfl) rfl
theorem gw_568 : Cond.lays "java/lang/IllegalStateException" "java/lang/Throwable" "detailMessage" "Ljava/lang/String;" ∈ gx_G := gx_c3 _ (List.mem_of_getElem? (i := 88) rfl) rfl
theorem gw_569 : Cond.lays "java/lang/IllegalStateException" "java/lang/Throwable" "backtrace" "Ljava/lang/Object;" ∈ gx_G := gx_c3 _ (List.mem_of_getElem? (i := 89) rfl) rfl
theorem gw_571 : Cond.methodLink "KeypadWriter" 59 ⟨"java/lang/IllegalStateException", "<init>", "(Ljava/lang/String;)V"⟩ ∈ gx_G := gx_c3 _ (List.mem_of_getElem? (i := 91) rfl) rfl
theorem gw_572 : Cond.instanceMethod ⟨"java/lang/IllegalStateException", "<init>", "(Ljava/lang/String;)V"⟩ ∈ gx_G := gx_c3 _ (List.mem_of_getElem? (i := 92) rfl) rfl
theorem gw_573 : Cond.code ⟨"java/lang/IllegalStateException", "<init>", "(Ljava/lang/String;)V"⟩ prog_14_method_2_code 2 none ∈ gx_G := gx_c3 _ (List.mem_of_getElem? (i := 93) rfl) rfl
theorem gw_574 : Cond.methodLink "java/lang/IllegalStateException" 7 ⟨"java/lang/RuntimeException", "<init>", "(Ljava/lang/String;)V"⟩ ∈ gx_G := gx_c3 _ (List.mem_of_getElem? (i := 94) rfl) rfl
theorem gw_575 : Cond.lays "java/lang/IllegalStateException" "java/lang/Throwable" "depth" "I" ∈ gx_G := gx_c3 _ (List.mem_of_getElem? (i := 95) rfl) rfl
theorem gw_576 : Cond.superclass "java/lang/IllegalStateException" "java/lang/RuntimeException" ∈ gx_G := gx_c3 _ (List.mem_of_getElem? (i := 96) rfl) rfl
theorem gw_577 : Cond.methodLink "KeypadWriter" 60 ⟨"KeypadWriter$ListText", "addByte", "(I)V"⟩ ∈ gx_G := gx_c3 _ (List.mem_of_getElem? (i := 97) rfl) rfl
theorem gw_578 : Cond.instanceMethod ⟨"KeypadWriter$ListText", "addByte", "(I)V"⟩ ∈ gx_G := gx_c3 _ (List.mem_of_getElem? (i := 98) rfl) rfl
theorem gw_579 : Cond.selects "KeypadWriter$ListText" ⟨"KeypadWriter$ListText", "addByte", "(I)V"⟩ ⟨"KeypadWriter$ListText", "addByte", "(I)V"⟩ ∈ gx_G := gx_c3 _ (List.mem_of_getElem? (i := 99) rfl) rfl
theorem gw_580 : Cond.code ⟨"KeypadWriter$ListText", "addByte", "(I)V"⟩ prog_4_method_4_code 2 none ∈ gx_G := gx_c3 _ (List.mem_of_getElem? (i := 100) rfl) rfl
theorem gw_581 : Cond.methodLink "KeypadWriter$ListText" 19 ⟨"KeypadWriter$ListText", "isFull", "()Z"⟩ ∈ gx_G := gx_c3 _ (List.mem_of_getElem? (i := 101) rfl) rfl
theorem gw_582 : Cond.methodLink "KeypadWriterLaw" 95 ⟨"KeypadWriterLaw", "setWays", "(LKeypadWriter;ZI[J)I"⟩ ∈ gx_G := gx_c3 _ (List.mem_of_getElem? (i := 102) rfl) rfl
theorem gw_583 : Cond.static ⟨"KeypadWriterLaw", "setWays", "(LKeypadWriter;ZI[J)I"⟩ ∈ gx_G := gx_c3 _ (List.mem_of_getElem? (i := 103) rfl) rfl
theorem gw_584 : Cond.codeWith ⟨"KeypadWriterLaw", "setWays", "(LKeypadWriter;ZI[J)I"⟩ method_4_code 5 (Option.some FieldType.int) [(0, 10, 13, 13)] ∈ gx_G := gx_c3 _ (List.mem_of_getElem? (i := 104) rfl) rfl
theorem gw_585 : Cond.methodLink "KeypadWriterLaw" 17 ⟨"KeypadWriter", "setWays", "(ZI)I"⟩ ∈ gx_G := gx_c3 _ (List.mem_of_getElem? (i := 105) rfl) rfl
theorem gw_586 : Cond.instanceMethod ⟨"KeypadWriter", "setWays", "(ZI)I"⟩ ∈ gx_G := gx_c3 _ (List.mem_of_getElem? (i := 106) rfl) rfl
theorem gw_587 : Cond.selects "KeypadWriter" ⟨"KeypadWriter", "setWays", "(ZI)I"⟩ ⟨"KeypadWriter", "setWays", "(ZI)I"⟩ ∈ gx_G := gx_c3 _ (List.mem_of_getElem? (i := 107) rfl) rfl
theorem gw_588 : Cond.code ⟨"KeypadWriter", "setWays", "(ZI)I"⟩ prog_1_method_5_code 4 (Option.some FieldType.int) ∈ gx_G := gx_c3 _ (List.mem_of_getElem? (i := 108) rfl) rfl
theorem gw_590 : Cond.methodLink "KeypadWriterLaw" 99 ⟨"KeypadWriterLaw", "word", "(LKeypadWriter;II[J)I"⟩ ∈ gx_G := gx_c3 _ (List.mem_of_getElem? (i := 110) rfl) rfl
theorem gw_591 : Cond.static ⟨"KeypadWriterLaw", "word", "(LKeypadWriter;II[J)I"⟩ ∈ gx_G := gx_c3 _ (List.mem_of_getElem? (i := 111) rfl) rfl
theorem gw_592 : Cond.codeWith ⟨"KeypadWriterLaw", "word", "(LKeypadWriter;II[J)I"⟩ method_5_code 5 (Option.some FieldType.int) [(0, 10, 13, 25), (0, 10, 17, 13)] ∈ gx_G := gx_c3 _ (List.mem_of_getElem? (i := 112) rfl) rfl
theorem gw_593 : Cond.classLink "KeypadWriterLaw" 25 "java/lang/IndexOutOfBoundsException" ∈ gx_G := gx_c3 _ (List.mem_of_getElem? (i := 113) rfl) rfl
theorem gw_594 : Cond.methodLink "KeypadWriterLaw" 21 ⟨"KeypadWriter", "word", "(II)I"⟩ ∈ gx_G := gx_c3 _ (List.mem_of_getElem? (i := 114) rfl) rfl
theorem gw_595 : Cond.instanceMethod ⟨"KeypadWriter", "word", "(II)I"⟩ ∈ gx_G := gx_c3 _ (List.mem_of_getElem? (i := 115) rfl) rfl
theorem gw_596 : Cond.selects "KeypadWriter" ⟨"KeypadWriter", "word", "(II)I"⟩ ⟨"KeypadWriter", "word", "(II)I"⟩ ∈ gx_G := gx_c3 _ (List.mem_of_getElem? (i := 116) rfl) rfl
theorem gw_597 : Cond.code ⟨"KeypadWriter", "word", "(II)I"⟩ prog_1_method_6_code 3 (Option.some FieldType.int) ∈ gx_G := gx_c3 _ (List.mem_of_getElem? (i := 117) rfl) rfl
theorem gw_598 : Cond.methodLink "KeypadWriter" 101 ⟨"KeypadWriter$WordList", "has", "(I)Z"⟩ ∈ gx_G := gx_c3 _ (List.mem_of_getElem? (i := 118) rfl) rfl
theorem gw_599 : Cond.classLink "KeypadWriter" 105 "java/lang/IndexOutOfBoundsException" ∈ gx_G := gx_c3 _ (List.mem_of_getElem? (i := 119) rfl) rfl
theorem gw_600 : Cond.instantiable "java/lang/IndexOutOfBoundsException" 6 ∈ gx_G := gx_c3 _ (List.mem_of_getElem? (i := 120) rfl) rfl
theorem gw_602 : Cond.selects "java/lang/IndexOutOfBoundsException" ⟨"java/lang/Throwable", "fillInStackTrace", "(I)Ljava/lang/Throwable;"⟩ ⟨"java/lang/Throwable", "fillInStackTrace", "(I)Ljava/lang/Throwable;"⟩ ∈ gx_G := gx_c3 _ (List.mem_of_getElem? (i := 122) rfl) rfl
theorem gw_603 : Cond.lays "java/lang/IndexOutOfBoundsException" "java/lang/Throwable" "cause" "Ljava/lang/Throwable;" ∈ gx_G := gx_c3 _ (List.mem_of_getElem? (i := 123) rfl) rfl
theorem gw_604 : Cond.lays "java/lang/IndexOutOfBoundsException" "java/lang/Throwable" "stackTrace" "[Ljava/lang/StackTraceElement;" ∈ gx_G := gx_c3 _ (List.mem_of_getElem? (i := 124) rfl) rfl
theorem gw_605 : Cond.lays "java/lang/IndexOutOfBoundsException" "java/lang/Throwable" "suppressedExceptions" "Ljava/util/List;" ∈ gx_G := gx_c3 _ (List.mem_of_getElem? (i := 125) rfl) rfl
theorem gw_606 : Cond.lays "java/lang/IndexOutOfBoundsException" "java/lang/Throwable" "detailMessage" "Ljava/lang/String;" ∈ gx_G := gx_c3 _ (List.mem_of_getElem? (i := 126) rfl) rfl
theorem gw_607 : Cond.lays "java/lang/IndexOutOfBoundsException" "java/lang/Throwable" "backtrace" "Ljava/lang/Object;" ∈ gx_G := gx_c3 _ (List.mem_of_getElem? (i := 127) rfl) rfl
theorem gw_609 : Cond.methodLink "KeypadWriter" 109 ⟨"java/lang/IndexOutOfBoundsException", "<init>", "(Ljava/lang/String;)V"⟩ ∈ gx_G := gx_c3 _ (List.mem_of_getElem? (i := 129) rfl) rfl
theorem gw_610 : Cond.instanceMethod ⟨"java/lang/IndexOutOfBoundsException", "<init>", "(Ljava/lang/String;)V"⟩ ∈ gx_G := gx_c3 _ (List.mem_of_getElem? (i := 130) rfl) rfl
theorem gw_611 : Cond.code ⟨"java/lang/IndexOutOfBoundsException", "<init>", "(Ljava/lang/String;)V"⟩ prog_15_method_2_code 2 none ∈ gx_G := gx_c3 _ (List.mem_of_getElem? (i := 131) rfl) rfl
theorem gw_612 : Cond.methodLink "java/lang/IndexOutOfBoundsException" 7 ⟨"java/lang/RuntimeException", "<init>", "(Ljava/lang/String;)V"⟩ ∈ gx_G := gx_c3 _ (List.mem_of_getElem? (i := 132) rfl) rfl
theorem gw_613 : Cond.lays "java/lang/IndexOutOfBoundsException" "java/lang/Throwable" "depth" "I" ∈ gx_G := gx_c3 _ (List.mem_of_getElem? (i := 133) rfl) rfl
theorem gw_614 : Cond.superclass "java/lang/IndexOutOfBoundsException" "java/lang/RuntimeException" ∈ gx_G := gx_c3 _ (List.mem_of_getElem? (i := 134) rfl) rfl
theorem gw_616 : Cond.methodLink "KeypadWriterLaw" 103 ⟨"KeypadWriterLaw", "letter", "(LKeypadWriter;II[J)I"⟩ ∈ gx_G := gx_c3 _ (List.mem_of_getElem? (i := 136) rfl) rfl
theorem gw_617 : Cond.static ⟨"KeypadWriterLaw", "letter", "(LKeypadWriter;II[J)I"⟩ ∈ gx_G := gx_c3 _ (List.mem_of_getElem? (i := 137) rfl) rfl
theorem gw_618 : Cond.codeWith ⟨"KeypadWriterLaw", "letter", "(LKeypadWriter;II[J)I"⟩ method_6_code 5 (Option.some FieldType.int) [(0, 10, 13, 25)] ∈ gx_G := gx_c3 _ (List.mem_of_getElem? (i := 138) rfl) rfl
theorem gw_619 : Cond.methodLink "KeypadWriterLaw" 27 ⟨"KeypadWriter", "letter", "(II)I"⟩ ∈ gx_G := gx_c3 _ (List.mem_of_getElem? (i := 139) rfl) rfl
theorem gw_620 : Cond.instanceMethod ⟨"KeypadWriter", "letter", "(II)I"⟩ ∈ gx_G := gx_c3 _ (List.mem_of_getElem? (i := 140) rfl) rfl
theorem gw_621 : Cond.selects "KeypadWriter" ⟨"KeypadWriter", "letter", "(II)I"⟩ ⟨"KeypadWriter", "letter", "(II)I"⟩ ∈ gx_G := gx_c3 _ (List.mem_of_getElem? (i := 141) rfl) rfl
theorem gw_622 : Cond.code ⟨"KeypadWriter", "letter", "(II)I"⟩ prog_1_method_7_code 5 (Option.some FieldType.int) ∈ gx_G := gx_c3 _ (List.mem_of_getElem? (i := 142) rfl) rfl
theorem gw_623 : Cond.methodLink "KeypadWriter" 120 ⟨"KeypadWriter$Slots", "has", "(JI)Z"⟩ ∈ gx_G := gx_c3 _ (List.mem_of_getElem? (i := 143) rfl) rfl
theorem gw_625 : Cond.methodLink "KeypadWriterLaw" 106 ⟨"KeypadWriterLaw", "press", "(LKeypadWriter;I[J)I"⟩ ∈ gx_G := gx_c3 _ (List.mem_of_getElem? (i := 145) rfl) rfl
theorem gw_626 : Cond.static ⟨"KeypadWriterLaw", "press", "(LKeypadWriter;I[J)I"⟩ ∈ gx_G := gx_c3 _ (List.mem_of_getElem? (i := 146) rfl) rfl
theorem gw_627 : Cond.codeWith ⟨"KeypadWriterLaw", "press", "(LKeypadWriter;I[J)I"⟩ method_7_code 4 (Option.some FieldType.int) [(0, 9, 12, 13), (0, 9, 15, 15)] ∈ gx_G := gx_c3 _ (List.mem_of_getElem? (i := 147) rfl) rfl
theorem gw_628 : Cond.methodLink "KeypadWriterLaw" 30 ⟨"KeypadWriter", "press", "(I)I"⟩ ∈ gx_G := gx_c3 _ (List.mem_of_getElem? (i := 148) rfl) rfl
theorem gw_629 : Cond.instanceMethod ⟨"KeypadWriter", "press", "(I)I"⟩ ∈ gx_G := gx_c3 _ (List.mem_of_getElem? (i := 149) rfl) rfl
theorem gw_630 : Cond.selects "KeypadWriter" ⟨"KeypadWriter", "press", "(I)I"⟩ ⟨"KeypadWriter", "press", "(I)I"⟩ ∈ gx_G := gx_c3 _ (List.mem_of_getElem? (i := 150) rfl) rfl
theorem gw_631 : Cond.code ⟨"KeypadWriter", "press", "(I)I"⟩ prog_1_method_8_code 3 (Option.some FieldType.int) ∈ gx_G := gx_c3 _ (List.mem_of_getElem? (i := 151) rfl) rfl
theorem gw_632 : Cond.methodLink "KeypadWriter" 131 ⟨"KeypadWriter$Keys", "isKey", "(I)Z"⟩ ∈ gx_G := gx_c3 _ (List.mem_of_getElem? (i := 152) rfl) rfl
theorem gw_635 : Cond.methodLink "KeypadWriter" 147 ⟨"KeypadWriter$State", "turnLastPlace", "()V"⟩ ∈ gx_G := gx_c3 _ (List.mem_of_getElem? (i := 155) rfl) rfl
theorem gw_636 : Cond.instanceMethod ⟨"KeypadWriter$State", "turnLastPlace", "()V"⟩ ∈ gx_G := gx_c3 _ (List.mem_of_getElem? (i := 156) rfl) rfl
theorem gw_637 : Cond.selects "KeypadWriter$State" ⟨"KeypadWriter$State", "turnLastPlace", "()V"⟩ ⟨"KeypadWriter$State", "turnLastPlace", "()V"⟩ ∈ gx_G := gx_c3 _ (List.mem_of_getElem? (i := 157) rfl) rfl
theorem gw_638 : Cond.code ⟨"KeypadWriter$State", "turnLastPlace", "()V"⟩ prog_7_method_5_code 3 none ∈ gx_G := gx_c3 _ (List.mem_of_getElem? (i := 158) rfl) rfl
theorem gw_639 : Cond.methodLink "KeypadWriter$State" 65 ⟨"KeypadWriter$State", "places", "()I"⟩ ∈ gx_G := gx_c3 _ (List.mem_of_getElem? (i := 159) rfl) rfl
theorem gw_640 : Cond.methodLink "KeypadWriter$State" 85 ⟨"KeypadWriter$Slots", "letterAt", "(JI)I"⟩ ∈ gx_G := gx_c3 _ (List.mem_of_getElem? (i := 160) rfl) rfl
theorem gw_641 : Cond.methodLink "KeypadWriter$State" 89 ⟨"KeypadWriter$Keys", "letterBehind", "(I)I"⟩ ∈ gx_G := gx_c3 _ (List.mem_of_getElem? (i := 161) rfl) rfl
theorem gw_642 : Cond.static ⟨"KeypadWriter$Keys", "letterBehind", "(I)I"⟩ ∈ gx_G := gx_c3 _ (List.mem_of_getElem? (i := 162) rfl) rfl
theorem gw_643 : Cond.code ⟨"KeypadWriter$Keys", "letterBehind", "(I)I"⟩ prog_3_method_5_code 2 (Option.some FieldType.int) ∈ gx_G := gx_c3 _ (List.mem_of_getElem? (i := 163) rfl) rfl
theorem gw_644 : Cond.methodLink "KeypadWriter$State" 75 ⟨"KeypadWriter$Slots", "codeOfLetter", "(I)I"⟩ ∈ gx_G := gx_c3 _ (List.mem_of_getElem? (i := 164) rfl) rfl
theorem gw_645 : Cond.methodLink "KeypadWriter$State" 78 ⟨"KeypadWriter$Slots", "with", "(JII)J"⟩ ∈ gx_G := gx_c3 _ (List.mem_of_getElem? (i := 165) rfl) rfl
theorem gw_646 : Cond.methodLink "KeypadWriter" 150 ⟨"KeypadWriter$State", "addPlace", "(I)V"⟩ ∈ gx_G := gx_c3 _ (List.mem_of_getElem? (i := 166) rfl) rfl
theorem gw_647 : Cond.instanceMethod ⟨"KeypadWriter$State", "addPlace", "(I)V"⟩ ∈ gx_G := gx_c3 _ (List.mem_of_getElem? (i := 167) rfl) rfl
theorem gw_648 : Cond.selects "KeypadWriter$State" ⟨"KeypadWriter$State", "addPlace", "(I)V"⟩ ⟨"KeypadWriter$State", "addPlace", "(I)V"⟩ ∈ gx_G := gx_c3 _ (List.mem_of_getElem? (i := 168) rfl) rfl
theorem gw_649 : Cond.code ⟨"KeypadWriter$State", "addPlace", "(I)V"⟩ prog_7_method_4_code 2 none ∈ gx_G := gx_c3 _ (List.mem_of_getElem? (i := 169) rfl) rfl
theorem gw_650 : Cond.methodLink "KeypadWriter$State" 69 ⟨"KeypadWriter$Keys", "firstLetter", "(I)I"⟩ ∈ gx_G := gx_c3 _ (List.mem_of_getElem? (i := 170) rfl) rfl
theorem gw_651 : Cond.methodLink "KeypadWriter$State" 82 ⟨"KeypadWriter$Slots", "codeOfKey", "(I)I"⟩ ∈ gx_G := gx_c3 _ (List.mem_of_getElem? (i := 171) rfl) rfl
theorem gw_652 : Cond.methodLink "KeypadWriterLaw" 118 ⟨"KeypadWriterLaw", "next", "(LKeypadWriter;[J)I"⟩ ∈ gx_G := gx_c3 _ (List.mem_of_getElem? (i := 172) rfl) rfl
theorem gw_653 : Cond.static ⟨"KeypadWriterLaw", "next", "(LKeypadWriter;[J)I"⟩ ∈ gx_G := gx_c3 _ (List.mem_of_getElem? (i := 173) rfl) rfl
theorem gw_654 : Cond.codeWith ⟨"KeypadWriterLaw", "next", "(LKeypadWriter;[J)I"⟩ method_8_code 3 (Option.some FieldType.int) [(0, 8, 11, 15)] ∈ gx_G := gx_c3 _ (List.mem_of_getElem? (i := 174) rfl) rfl
theorem gw_655 : Cond.methodLink "KeypadWriterLaw" 33 ⟨"KeypadWriter", "next", "()I"⟩ ∈ gx_G := gx_c3 _ (List.mem_of_getElem? (i := 175) rfl) rfl
theorem gw_656 : Cond.instanceMethod ⟨"KeypadWriter", "next", "()I"⟩ ∈ gx_G := gx_c3 _ (List.mem_of_getElem? (i := 176) rfl) rfl
theorem gw_657 : Cond.selects "KeypadWriter" ⟨"KeypadWriter", "next", "()I"⟩ ⟨"KeypadWriter", "next", "()I"⟩ ∈ gx_G := gx_c3 _ (List.mem_of_getElem? (i := 177) rfl) rfl
theorem gw_658 : Cond.code ⟨"KeypadWriter", "next", "()I"⟩ prog_1_method_11_code 2 (Option.some FieldType.int) ∈ gx_G := gx_c3 _ (List.mem_of_getElem? (i := 178) rfl) rfl
theorem gw_660 : Cond.methodLink "KeypadWriterLaw" 122 ⟨"KeypadWriterLaw", "erase", "(LKeypadWriter;[J)I"⟩ ∈ gx_G := gx_c3 _ (List.mem_of_getElem? (i := 180) rfl) rfl
theorem gw_661 : Cond.static ⟨"KeypadWriterLaw", "erase", "(LKeypadWriter;[J)I"⟩ ∈ gx_G := gx_c3 _ (List.mem_of_getElem? (i := 181) rfl) rfl
theorem gw_662 : Cond.codeWith ⟨"KeypadWriterLaw", "erase", "(LKeypadWriter;[J)I"⟩ method_9_code 3 (Option.some FieldType.int) [(0, 8, 11, 15)] ∈ gx_G := gx_c3 _ (List.mem_of_getElem? (i := 182) rfl) rfl
theorem gw_663 : Cond.methodLink "KeypadWriterLaw" 37 ⟨"KeypadWriter", "erase", "()I"⟩ ∈ gx_G := gx_c3 _ (List.mem_of_getElem? (i := 183) rfl) rfl
theorem gw_664 : Cond.instanceMethod ⟨"KeypadWriter", "erase", "()I"⟩ ∈ gx_G := gx_c3 _ (List.mem_of_getElem? (i := 184) rfl) rfl
theorem gw_665 : Cond.selects "KeypadWriter" ⟨"KeypadWriter", "erase", "()I"⟩ ⟨"KeypadWriter", "erase", "()I"⟩ ∈ gx_G := gx_c3 _ (List.mem_of_getElem? (i := 185) rfl) rfl
theorem gw_666 : Cond.code ⟨"KeypadWriter", "erase", "()I"⟩ prog_1_method_12_code 1 (Option.some FieldType.int) ∈ gx_G := gx_c3 _ (List.mem_of_getElem? (i := 186) rfl) rfl
theorem gw_668 : Cond.methodLink "KeypadWriter" 176 ⟨"KeypadWriter$State", "dropLastPlace", "()V"⟩ ∈ gx_G := gx_c3 _ (List.mem_of_getElem? (i := 188) rfl) rfl
theorem gw_669 : Cond.instanceMethod ⟨"KeypadWriter$State", "dropLastPlace", "()V"⟩ ∈ gx_G := gx_c3 _ (List.mem_of_getElem? (i := 189) rfl) rfl
theorem gw_670 : Cond.selects "KeypadWriter$State" ⟨"KeypadWriter$State", "dropLastPlace", "()V"⟩ ⟨"KeypadWriter$State", "dropLastPlace", "()V"⟩ ∈ gx_G := gx_c3 _ (List.mem_of_getElem? (i := 190) rfl) rfl
theorem gw_671 : Cond.code ⟨"KeypadWriter$State", "dropLastPlace", "()V"⟩ prog_7_method_6_code 1 none ∈ gx_G := gx_c3 _ (List.mem_of_getElem? (i := 191) rfl) rfl
theorem gw_672 : Cond.methodLink "KeypadWriter$State" 92 ⟨"KeypadWriter$Slots", "firstOf", "(JI)J"⟩ ∈ gx_G := gx_c3 _ (List.mem_of_getElem? (i := 192) rfl) rfl
theorem gw_673 : Cond.methodLink "KeypadWriter$State" 96 ⟨"KeypadWriter$WrittenText", "remove", "(I)V"⟩ ∈ gx_G := gx_c3 _ (List.mem_of_getElem? (i := 193) rfl) rfl
theorem gw_674 : Cond.instanceMethod ⟨"KeypadWriter$WrittenText", "remove", "(I)V"⟩ ∈ gx_G := gx_c3 _ (List.mem_of_getElem? (i := 194) rfl) rfl
theorem gw_675 : Cond.selects "KeypadWriter$WrittenText" ⟨"KeypadWriter$WrittenText", "remove", "(I)V"⟩ ⟨"KeypadWriter$WrittenText", "remove", "(I)V"⟩ ∈ gx_G := gx_c3 _ (List.mem_of_getElem? (i := 195) rfl) rfl
theorem gw_676 : Cond.code ⟨"KeypadWriter$WrittenText", "remove", "(I)V"⟩ prog_9_method_7_code 3 none ∈ gx_G := gx_c3 _ (List.mem_of_getElem? (i := 196) rfl) rfl
theorem gw_677 : Cond.methodLink "KeypadWriterLaw" 125 ⟨"KeypadWriterLaw", "accept", "(LKeypadWriter;[J)I"⟩ ∈ gx_G := gx_c3 _ (List.mem_of_getElem? (i := 197) rfl) rfl
theorem gw_678 : Cond.static ⟨"KeypadWriterLaw", "accept", "(LKeypadWriter;[J)I"⟩ ∈ gx_G := gx_c3 _ (List.mem_of_getElem? (i := 198) rfl) rfl
theorem gw_679 : Cond.codeWith ⟨"KeypadWriterLaw", "accept", "(LKeypadWriter;[J)I"⟩ method_10_code 3 (Option.some FieldType.int) [(0, 8, 11, 15)] ∈ gx_G := gx_c3 _ (List.mem_of_getElem? (i := 199) rfl) rfl
theorem gw_680 : Cond.methodLink "KeypadWriterLaw" 40 ⟨"KeypadWriter", "accept", "()I"⟩ ∈ gx_G := gx_c3 _ (List.mem_of_getElem? (i := 200) rfl) rfl
theorem gw_681 : Cond.instanceMethod ⟨"KeypadWriter", "accept", "()I"⟩ ∈ gx_G := gx_c3 _ (List.mem_of_getElem? (i := 201) rfl) rfl
theorem gw_682 : Cond.selects "KeypadWriter" ⟨"KeypadWriter", "accept", "()I"⟩ ⟨"KeypadWriter", "accept", "()I"⟩ ∈ gx_G := gx_c3 _ (List.mem_of_getElem? (i := 202) rfl) rfl
theorem gw_683 : Cond.code ⟨"KeypadWriter", "accept", "()I"⟩ prog_1_method_13_code 1 (Option.some FieldType.int) ∈ gx_G := gx_c3 _ (List.mem_of_getElem? (i := 203) rfl) rfl
theorem gw_685 : Cond.methodLink "KeypadWriter" 191 ⟨"KeypadWriter$State", "takeWord", "(J)V"⟩ ∈ gx_G := gx_c3 _ (List.mem_of_getElem? (i := 205) rfl) rfl
theorem gw_686 : Cond.instanceMethod ⟨"KeypadWriter$State", "takeWord", "(J)V"⟩ ∈ gx_G := gx_c3 _ (List.mem_of_getElem? (i := 206) rfl) rfl
theorem gw_687 : Cond.selects "KeypadWriter$State" ⟨"KeypadWriter$State", "takeWord", "(J)V"⟩ ⟨"KeypadWriter$State", "takeWord", "(J)V"⟩ ∈ gx_G := gx_c3 _ (List.mem_of_getElem? (i := 207) rfl) rfl
theorem gw_688 : Cond.code ⟨"KeypadWriter$State", "takeWord", "(J)V"⟩ prog_7_method_8_code 3 none ∈ gx_G := gx_c3 _ (List.mem_of_getElem? (i := 208) rfl) rfl
theorem gw_689 : Cond.methodLink "KeypadWriter$State" 104 ⟨"KeypadWriter$WordList", "countUse", "(JI)V"⟩ ∈ gx_G := gx_c3 _ (List.mem_of_getElem? (i := 209) rfl) rfl
theorem gw_690 : Cond.instanceMethod ⟨"KeypadWriter$WordList", "countUse", "(JI)V"⟩ ∈ gx_G := gx_c3 _ (List.mem_of_getElem? (i := 210) rfl) rfl
theorem gw_691 : Cond.selects "KeypadWriter$WordList" ⟨"KeypadWriter$WordList", "countUse", "(JI)V"⟩ ⟨"KeypadWriter$WordList", "countUse", "(JI)V"⟩ ∈ gx_G := gx_c3 _ (List.mem_of_getElem? (i := 211) rfl) rfl
theorem gw_692 : Cond.code ⟨"KeypadWriter$WordList", "countUse", "(JI)V"⟩ prog_8_method_18_code 5 none ∈ gx_G := gx_c3 _ (List.mem_of_getElem? (i := 212) rfl) rfl
theorem gw_693 : Cond.methodLink "KeypadWriter$WordList" 85 ⟨"KeypadWriter$WordList", "find", "(J)I"⟩ ∈ gx_G := gx_c3 _ (List.mem_of_getElem? (i := 213) rfl) rfl
theorem gw_694 : Cond.methodLink "KeypadWriter$WordList" 88 ⟨"java/lang/Math", "min", "(II)I"⟩ ∈ gx_G := gx_c3 _ (List.mem_of_getElem? (i := 214) rfl) rfl
theorem gw_695 : Cond.static ⟨"java/lang/Math", "min", "(II)I"⟩ ∈ gx_G := gx_c3 _ (List.mem_of_getElem? (i := 215) rfl) rfl
theorem gw_696 : Cond.code ⟨"java/lang/Math", "min", "(II)I"⟩ prog_16_method_69_code 2 (Option.some FieldType.int) ∈ gx_G := gx_c3 _ (List.mem_of_getElem? (i := 216) rfl) rfl
theorem gw_697 : Cond.methodLink "KeypadWriter$WordList" 94 ⟨"KeypadWriter$WordList", "lastAdded", "()I"⟩ ∈ gx_G := gx_c3 _ (List.mem_of_getElem? (i := 217) rfl) rfl
theorem gw_699 : Cond.instanceMethod ⟨"KeypadWriter$WordList", "lastAdded", "()I"⟩ ∈ gx_G := gx_c3 _ (List.mem_of_getElem? (i := 219) rfl) rfl
theorem gw_700 : Cond.code ⟨"KeypadWriter$WordList", "lastAdded", "()I"⟩ prog_8_method_19_code 3 (Option.some FieldType.int) ∈ gx_G := gx_c3 _ (List.mem_of_getElem? (i := 220) rfl) rfl
theorem gw_701 : Cond.methodLink "KeypadWriter$WordList" 98 ⟨"KeypadWriter$WordList", "remove", "(I)V"⟩ ∈ gx_G := gx_c3 _ (List.mem_of_getElem? (i := 221) rfl) rfl
theorem gw_702 : Cond.instanceMethod ⟨"KeypadWriter$WordList", "remove", "(I)V"⟩ ∈ gx_G := gx_c3 _ (List.mem_of_getElem? (i := 222) rfl) rfl
theorem gw_703 : Cond.selects "KeypadWriter$WordList" ⟨"KeypadWriter$WordList", "remove", "(I)V"⟩ ⟨"KeypadWriter$WordList", "remove", "(I)V"⟩ ∈ gx_G := gx_c3 _ (List.mem_of_getElem? (i := 223) rfl) rfl
theorem gw_704 : Cond.code ⟨"KeypadWriter$WordList", "remove", "(I)V"⟩ prog_8_method_17_code 4 none ∈ gx_G := gx_c3 _ (List.mem_of_getElem? (i := 224) rfl) rfl
theorem gw_705 : Cond.methodLink "KeypadWriter$WordList" 102 ⟨"KeypadWriter$WordList", "insert", "(JIIZ)V"⟩ ∈ gx_G := gx_c3 _ (List.mem_of_getElem? (i := 225) rfl) rfl
theorem gw_706 : Cond.methodLink "KeypadWriter$State" 108 ⟨"KeypadWriter$WordList", "ageAllBut", "(J)V"⟩ ∈ gx_G := gx_c3 _ (List.mem_of_getElem? (i := 226) rfl) rfl
theorem gw_707 : Cond.instanceMethod ⟨"KeypadWriter$WordList", "ageAllBut", "(J)V"⟩ ∈ gx_G := gx_c3 _ (List.mem_of_getElem? (i := 227) rfl) rfl
theorem gw_708 : Cond.selects "KeypadWriter$WordList" ⟨"KeypadWriter$WordList", "ageAllBut", "(J)V"⟩ ⟨"KeypadWriter$WordList", "ageAllBut", "(J)V"⟩ ∈ gx_G := gx_c3 _ (List.mem_of_getElem? (i := 228) rfl) rfl
theorem gw_709 : Cond.code ⟨"KeypadWriter$WordList", "ageAllBut", "(J)V"⟩ prog_8_method_20_code 4 none ∈ gx_G := gx_c3 _ (List.mem_of_getElem? (i := 229) rfl) rfl
theorem gw_710 : Cond.methodLink "KeypadWriter$State" 112 ⟨"KeypadWriter$WrittenText", "addWord", "(J)V"⟩ ∈ gx_G := gx_c3 _ (List.mem_of_getElem? (i := 230) rfl) rfl
theorem gw_711 : Cond.instanceMethod ⟨"KeypadWriter$WrittenText", "addWord", "(J)V"⟩ ∈ gx_G := gx_c3 _ (List.mem_of_getElem? (i := 231) rfl) rfl
theorem gw_712 : Cond.selects "KeypadWriter$WrittenText" ⟨"KeypadWriter$WrittenText", "addWord", "(J)V"⟩ ⟨"KeypadWriter$WrittenText", "addWord", "(J)V"⟩ ∈ gx_G := gx_c3 _ (List.mem_of_getElem? (i := 232) rfl) rfl
theorem gw_713 : Cond.code ⟨"KeypadWriter$WrittenText", "addWord", "(J)V"⟩ prog_9_method_5_code 3 none ∈ gx_G := gx_c3 _ (List.mem_of_getElem? (i := 233) rfl) rfl
theorem gw_714 : Cond.methodLink "KeypadWriter$State" 115 ⟨"KeypadWriter$WrittenText", "replace", "(IJ)V"⟩ ∈ gx_G := gx_c3 _ (List.mem_of_getElem? (i := 234) rfl) rfl
theorem gw_715 : Cond.instanceMethod ⟨"KeypadWriter$WrittenText", "replace", "(IJ)V"⟩ ∈ gx_G := gx_c3 _ (List.mem_of_getElem? (i := 235) rfl) rfl
theorem gw_716 : Cond.selects "KeypadWriter$WrittenText" ⟨"KeypadWriter$WrittenText", "replace", "(IJ)V"⟩ ⟨"KeypadWriter$WrittenText", "replace", "(IJ)V"⟩ ∈ gx_G := gx_c3 _ (List.mem_of_getElem? (i := 236) rfl) rfl
theorem gw_717 : Cond.code ⟨"KeypadWriter$WrittenText", "replace", "(IJ)V"⟩ prog_9_method_6_code 4 none ∈ gx_G := gx_c3 _ (List.mem_of_getElem? (i := 237) rfl) rfl
theorem gw_718 : Cond.methodLink "KeypadWriterLaw" 128 ⟨"KeypadWriterLaw", "open", "(LKeypadWriter;I[J)I"⟩ ∈ gx_G := gx_c3 _ (List.mem_of_getElem? (i := 238) rfl) rfl
theorem gw_719 : Cond.static ⟨"KeypadWriterLaw", "open", "(LKeypadWriter;I[J)I"⟩ ∈ gx_G := gx_c3 _ (List.mem_of_getElem? (i := 239) rfl) rfl
theorem gw_720 : Cond.codeWith ⟨"KeypadWriterLaw", "open", "(LKeypadWriter;I[J)I"⟩ method_11_code 4 (Option.some FieldType.int) [(0, 9, 12, 25), (0, 9, 15, 15)] ∈ gx_G := gx_c4 _ (List.mem_of_getElem? (i := 0) rfl) rfl
theorem gw_721 : Cond.methodLink "KeypadWriterLaw" 43 ⟨"KeypadWriter", "open", "(I)I"⟩ ∈ gx_G := gx_c4 _ (List.mem_of_getElem? (i := 1) rfl) rfl
theorem gw_722 : Cond.instanceMethod ⟨"KeypadWriter", "open", "(I)I"⟩ ∈ gx_G := gx_c4 _ (List.mem_of_getElem? (i := 2) rfl) rfl
theorem gw_723 : Cond.selects "KeypadWriter" ⟨"KeypadWriter", "open", "(I)I"⟩ ⟨"KeypadWriter", "open", "(I)I"⟩ ∈ gx_G := gx_c4 _ (List.mem_of_getElem? (i := 3) rfl) rfl
theorem gw_724 : Cond.code ⟨"KeypadWriter", "open", "(I)I"⟩ prog_1_method_14_code 2 (Option.some FieldType.int) ∈ gx_G := gx_c4 _ (List.mem_of_getElem? (i := 4) rfl) rfl
theorem gw_725 : Cond.methodLink "KeypadWriter" 195 ⟨"KeypadWriter$WrittenText", "has", "(I)Z"⟩ ∈ gx_G := gx_c4 _ (List.mem_of_getElem? (i := 5) rfl) rfl
theorem gw_728 : Cond.methodLink "KeypadWriter" 200 ⟨"KeypadWriter$State", "openWritten", "(I)V"⟩ ∈ gx_G := gx_c4 _ (List.mem_of_getElem? (i := 8) rfl) rfl
theorem gw_729 : Cond.instanceMethod ⟨"KeypadWriter$State", "openWritten", "(I)V"⟩ ∈ gx_G := gx_c4 _ (List.mem_of_getElem? (i := 9) rfl) rfl
theorem gw_730 : Cond.selects "KeypadWriter$State" ⟨"KeypadWriter$State", "openWritten", "(I)V"⟩ ⟨"KeypadWriter$State", "openWritten", "(I)V"⟩ ∈ gx_G := gx_c4 _ (List.mem_of_getElem? (i := 10) rfl) rfl
theorem gw_731 : Cond.code ⟨"KeypadWriter$State", "openWritten", "(I)V"⟩ prog_7_method_7_code 2 none ∈ gx_G := gx_c4 _ (List.mem_of_getElem? (i := 11) rfl) rfl
theorem gw_732 : Cond.methodLink "KeypadWriter$State" 100 ⟨"KeypadWriter$WrittenText", "wordAt", "(I)J"⟩ ∈ gx_G := gx_c4 _ (List.mem_of_getElem? (i := 12) rfl) rfl
theorem gw_733 : Cond.methodLink "KeypadWriterLaw" 131 ⟨"KeypadWriterLaw", "setting", "(LKeypadWriter;I[J)I"⟩ ∈ gx_G := gx_c4 _ (List.mem_of_getElem? (i := 13) rfl) rfl
theorem gw_734 : Cond.static ⟨"KeypadWriterLaw", "setting", "(LKeypadWriter;I[J)I"⟩ ∈ gx_G := gx_c4 _ (List.mem_of_getElem? (i := 14) rfl) rfl
theorem gw_735 : Cond.codeWith ⟨"KeypadWriterLaw", "setting", "(LKeypadWriter;I[J)I"⟩ method_12_code 4 (Option.some FieldType.int) [(0, 9, 12, 13)] ∈ gx_G := gx_c4 _ (List.mem_of_getElem? (i := 15) rfl) rfl
theorem gw_736 : Cond.methodLink "KeypadWriterLaw" 46 ⟨"KeypadWriter", "setting", "(I)I"⟩ ∈ gx_G := gx_c4 _ (List.mem_of_getElem? (i := 16) rfl) rfl
theorem gw_737 : Cond.instanceMethod ⟨"KeypadWriter", "setting", "(I)I"⟩ ∈ gx_G := gx_c4 _ (List.mem_of_getElem? (i := 17) rfl) rfl
theorem gw_738 : Cond.selects "KeypadWriter" ⟨"KeypadWriter", "setting", "(I)I"⟩ ⟨"KeypadWriter", "setting", "(I)I"⟩ ∈ gx_G := gx_c4 _ (List.mem_of_getElem? (i := 18) rfl) rfl
theorem gw_739 : Cond.code ⟨"KeypadWriter", "setting", "(I)I"⟩ prog_1_method_15_code 2 (Option.some FieldType.int) ∈ gx_G := gx_c4 _ (List.mem_of_getElem? (i := 19) rfl) rfl
theorem gw_741 : Cond.methodLink "KeypadWriterLaw" 134 ⟨"KeypadWriterLaw", "place", "(LKeypadWriter;I[J)I"⟩ ∈ gx_G := gx_c4 _ (List.mem_of_getElem? (i := 21) rfl) rfl
theorem gw_742 : Cond.static ⟨"KeypadWriterLaw", "place", "(LKeypadWriter;I[J)I"⟩ ∈ gx_G := gx_c4 _ (List.mem_of_getElem? (i := 22) rfl) rfl
theorem gw_743 : Cond.codeWith ⟨"KeypadWriterLaw", "place", "(LKeypadWriter;I[J)I"⟩ method_13_code 4 (Option.some FieldType.int) [(0, 9, 12, 25)] ∈ gx_G := gx_c4 _ (List.mem_of_getElem? (i := 23) rfl) rfl
theorem gw_744 : Cond.methodLink "KeypadWriterLaw" 49 ⟨"KeypadWriter", "place", "(I)I"⟩ ∈ gx_G := gx_c4 _ (List.mem_of_getElem? (i := 24) rfl) rfl
theorem gw_745 : Cond.instanceMethod ⟨"KeypadWriter", "place", "(I)I"⟩ ∈ gx_G := gx_c4 _ (List.mem_of_getElem? (i := 25) rfl) rfl
theorem gw_746 : Cond.selects "KeypadWriter" ⟨"KeypadWriter", "place", "(I)I"⟩ ⟨"KeypadWriter", "place", "(I)I"⟩ ∈ gx_G := gx_c4 _ (List.mem_of_getElem? (i := 26) rfl) rfl
theorem gw_747 : Cond.code ⟨"KeypadWriter", "place", "(I)I"⟩ prog_1_method_16_code 2 (Option.some FieldType.int) ∈ gx_G := gx_c4 _ (List.mem_of_getElem? (i := 27) rfl) rfl
theorem gw_749 : Cond.methodLink "KeypadWriterLaw" 137 ⟨"KeypadWriterLaw", "display", "(LKeypadWriter;I[J)I"⟩ ∈ gx_G := gx_c4 _ (List.mem_of_getElem? (i := 29) rfl) rfl
theorem gw_750 : Cond.static ⟨"KeypadWriterLaw", "display", "(LKeypadWriter;I[J)I"⟩ ∈ gx_G := gx_c4 _ (List.mem_of_getElem? (i := 30) rfl) rfl
theorem gw_751 : Cond.codeWith ⟨"KeypadWriterLaw", "display", "(LKeypadWriter;I[J)I"⟩ method_14_code 4 (Option.some FieldType.int) [(0, 9, 12, 13)] ∈ gx_G := gx_c4 _ (List.mem_of_getElem? (i := 31) rfl) rfl
theorem gw_752 : Cond.methodLink "KeypadWriterLaw" 52 ⟨"KeypadWriter", "display", "(I)I"⟩ ∈ gx_G := gx_c4 _ (List.mem_of_getElem? (i := 32) rfl) rfl
theorem gw_753 : Cond.instanceMethod ⟨"KeypadWriter", "display", "(I)I"⟩ ∈ gx_G := gx_c4 _ (List.mem_of_getElem? (i := 33) rfl) rfl
theorem gw_754 : Cond.selects "KeypadWriter" ⟨"KeypadWriter", "display", "(I)I"⟩ ⟨"KeypadWriter", "display", "(I)I"⟩ ∈ gx_G := gx_c4 _ (List.mem_of_getElem? (i := 34) rfl) rfl
theorem gw_755 : Cond.code ⟨"KeypadWriter", "display", "(I)I"⟩ prog_1_method_17_code 4 (Option.some FieldType.int) ∈ gx_G := gx_c4 _ (List.mem_of_getElem? (i := 35) rfl) rfl
theorem gw_757 : Cond.methodLink "KeypadWriterLaw" 140 ⟨"KeypadWriterLaw", "candidate", "(LKeypadWriter;I[J)I"⟩ ∈ gx_G := gx_c4 _ (List.mem_of_getElem? (i := 37) rfl) rfl
theorem gw_758 : Cond.static ⟨"KeypadWriterLaw", "candidate", "(LKeypadWriter;I[J)I"⟩ ∈ gx_G := gx_c4 _ (List.mem_of_getElem? (i := 38) rfl) rfl
theorem gw_759 : Cond.codeWith ⟨"KeypadWriterLaw", "candidate", "(LKeypadWriter;I[J)I"⟩ method_15_code 4 (Option.some FieldType.int) [(0, 9, 12, 25)] ∈ gx_G := gx_c4 _ (List.mem_of_getElem? (i := 39) rfl) rfl
theorem gw_760 : Cond.methodLink "KeypadWriterLaw" 55 ⟨"KeypadWriter", "candidate", "(I)I"⟩ ∈ gx_G := gx_c4 _ (List.mem_of_getElem? (i := 40) rfl) rfl
theorem gw_761 : Cond.instanceMethod ⟨"KeypadWriter", "candidate", "(I)I"⟩ ∈ gx_G := gx_c4 _ (List.mem_of_getElem? (i := 41) rfl) rfl
theorem gw_762 : Cond.selects "KeypadWriter" ⟨"KeypadWriter", "candidate", "(I)I"⟩ ⟨"KeypadWriter", "candidate", "(I)I"⟩ ∈ gx_G := gx_c4 _ (List.mem_of_getElem? (i := 42) rfl) rfl
theorem gw_763 : Cond.code ⟨"KeypadWriter", "candidate", "(I)I"⟩ prog_1_method_18_code 2 (Option.some FieldType.int) ∈ gx_G := gx_c4 _ (List.mem_of_getElem? (i := 43) rfl) rfl
theorem gw_765 : Cond.methodLink "KeypadWriterLaw" 143 ⟨"KeypadWriterLaw", "written", "(LKeypadWriter;II[J)I"⟩ ∈ gx_G := gx_c4 _ (List.mem_of_getElem? (i := 45) rfl) rfl
theorem gw_766 : Cond.static ⟨"KeypadWriterLaw", "written", "(LKeypadWriter;II[J)I"⟩ ∈ gx_G := gx_c4 _ (List.mem_of_getElem? (i := 46) rfl) rfl
theorem gw_767 : Cond.codeWith ⟨"KeypadWriterLaw", "written", "(LKeypadWriter;II[J)I"⟩ method_16_code 5 (Option.some FieldType.int) [(0, 10, 13, 25)] ∈ gx_G := gx_c4 _ (List.mem_of_getElem? (i := 47) rfl) rfl
theorem gw_768 : Cond.methodLink "KeypadWriterLaw" 58 ⟨"KeypadWriter", "written", "(II)I"⟩ ∈ gx_G := gx_c4 _ (List.mem_of_getElem? (i := 48) rfl) rfl
theorem gw_769 : Cond.instanceMethod ⟨"KeypadWriter", "written", "(II)I"⟩ ∈ gx_G := gx_c4 _ (List.mem_of_getElem? (i := 49) rfl) rfl
theorem gw_770 : Cond.selects "KeypadWriter" ⟨"KeypadWriter", "written", "(II)I"⟩ ⟨"KeypadWriter", "written", "(II)I"⟩ ∈ gx_G := gx_c4 _ (List.mem_of_getElem? (i := 50) rfl) rfl
theorem gw_771 : Cond.code ⟨"KeypadWriter", "written", "(II)I"⟩ prog_1_method_19_code 5 (Option.some FieldType.int) ∈ gx_G := gx_c4 _ (List.mem_of_getElem? (i := 51) rfl) rfl
theorem gw_772 : Cond.methodLink "KeypadWriterLaw" 146 ⟨"KeypadWriterLaw", "steps", "(LKeypadWriter;I[J)I"⟩ ∈ gx_G := gx_c4 _ (List.mem_of_getElem? (i := 52) rfl) rfl
theorem gw_773 : Cond.static ⟨"KeypadWriterLaw", "steps", "(LKeypadWriter;I[J)I"⟩ ∈ gx_G := gx_c4 _ (List.mem_of_getElem? (i := 53) rfl) rfl
theorem gw_774 : Cond.codeWith ⟨"KeypadWriterLaw", "steps", "(LKeypadWriter;I[J)I"⟩ method_17_code 4 (Option.some FieldType.int) [(0, 9, 12, 25)] ∈ gx_G := gx_c4 _ (List.mem_of_getElem? (i := 54) rfl) rfl
theorem gw_775 : Cond.methodLink "KeypadWriterLaw" 61 ⟨"KeypadWriter", "steps", "(I)I"⟩ ∈ gx_G := gx_c4 _ (List.mem_of_getElem? (i := 55) rfl) rfl
theorem gw_776 : Cond.instanceMethod ⟨"KeypadWriter", "steps", "(I)I"⟩ ∈ gx_G := gx_c4 _ (List.mem_of_getElem? (i := 56) rfl) rfl
theorem gw_777 : Cond.selects "KeypadWriter" ⟨"KeypadWriter", "steps", "(I)I"⟩ ⟨"KeypadWriter", "steps", "(I)I"⟩ ∈ gx_G := gx_c4 _ (List.mem_of_getElem? (i := 57) rfl) rfl
theorem gw_778 : Cond.code ⟨"KeypadWriter", "steps", "(I)I"⟩ prog_1_method_20_code 2 (Option.some FieldType.int) ∈ gx_G := gx_c4 _ (List.mem_of_getElem? (i := 58) rfl) rfl
theorem gw_779 : Cond.methodLink "KeypadWriterLaw" 149 ⟨"KeypadWriterLaw", "presses", "(LKeypadWriter;IZ[J)I"⟩ ∈ gx_G := gx_c4 _ (List.mem_of_getElem? (i := 59) rfl) rfl
theorem gw_780 : Cond.static ⟨"KeypadWriterLaw", "presses", "(LKeypadWriter;IZ[J)I"⟩ ∈ gx_G := gx_c4 _ (List.mem_of_getElem? (i := 60) rfl) rfl
theorem gw_781 : Cond.codeWith ⟨"KeypadWriterLaw", "presses", "(LKeypadWriter;IZ[J)I"⟩ method_18_code 5 (Option.some FieldType.int) [(0, 10, 13, 25)] ∈ gx_G := gx_c4 _ (List.mem_of_getElem? (i := 61) rfl) rfl
theorem gw_782 : Cond.methodLink "KeypadWriterLaw" 64 ⟨"KeypadWriter", "presses", "(IZ)I"⟩ ∈ gx_G := gx_c4 _ (List.mem_of_getElem? (i := 62) rfl) rfl
theorem gw_783 : Cond.instanceMethod ⟨"KeypadWriter", "presses", "(IZ)I"⟩ ∈ gx_G := gx_c4 _ (List.mem_of_getElem? (i := 63) rfl) rfl
theorem gw_784 : Cond.selects "KeypadWriter" ⟨"KeypadWriter", "presses", "(IZ)I"⟩ ⟨"KeypadWriter", "presses", "(IZ)I"⟩ ∈ gx_G := gx_c4 _ (List.mem_of_getElem? (i := 64) rfl) rfl
theorem gw_785 : Cond.code ⟨"KeypadWriter", "presses", "(IZ)I"⟩ prog_1_method_21_code 3 (Option.some FieldType.int) ∈ gx_G := gx_c4 _ (List.mem_of_getElem? (i := 65) rfl) rfl
theorem gw_786 : Cond.methodLink "KeypadWriter" 228 ⟨"KeypadWriter$WordList", "tapsFor", "(I)I"⟩ ∈ gx_G := gx_c4 _ (List.mem_of_getElem? (i := 66) rfl) rfl
theorem gw_787 : Cond.methodLink "KeypadWriter" 231 ⟨"KeypadWriter$WordList", "guessesFor", "(I)I"⟩ ∈ gx_G := gx_c4 _ (List.mem_of_getElem? (i := 67) rfl) rfl
theorem gw_788 : Cond.methodLink "KeypadWriterLaw" 162 ⟨"KeypadWriterLaw", "shortest", "(LKeypadWriter;I[J)I"⟩ ∈ gx_G := gx_c4 _ (List.mem_of_getElem? (i := 68) rfl) rfl
theorem gw_789 : Cond.static ⟨"KeypadWriterLaw", "shortest", "(LKeypadWriter;I[J)I"⟩ ∈ gx_G := gx_c4 _ (List.mem_of_getElem? (i := 69) rfl) rfl
theorem gw_790 : Cond.codeWith ⟨"KeypadWriterLaw", "shortest", "(LKeypadWriter;I[J)I"⟩ method_19_code 4 (Option.some FieldType.int) [(0, 9, 12, 25)] ∈ gx_G := gx_c4 _ (List.mem_of_getElem? (i := 70) rfl) rfl
theorem gw_791 : Cond.methodLink "KeypadWriterLaw" 68 ⟨"KeypadWriter", "shortest", "(I)I"⟩ ∈ gx_G := gx_c4 _ (List.mem_of_getElem? (i := 71) rfl) rfl
theorem gw_792 : Cond.instanceMethod ⟨"KeypadWriter", "shortest", "(I)I"⟩ ∈ gx_G := gx_c4 _ (List.mem_of_getElem? (i := 72) rfl) rfl
theorem gw_793 : Cond.selects "KeypadWriter" ⟨"KeypadWriter", "shortest", "(I)I"⟩ ⟨"KeypadWriter", "shortest", "(I)I"⟩ ∈ gx_G := gx_c4 _ (List.mem_of_getElem? (i := 73) rfl) rfl
theorem gw_794 : Cond.code ⟨"KeypadWriter", "shortest", "(I)I"⟩ prog_1_method_24_code 6 (Option.some FieldType.int) ∈ gx_G := gx_c4 _ (List.mem_of_getElem? (i := 74) rfl) rfl
theorem gw_795 : Cond.methodLink "KeypadWriter" 241 ⟨"KeypadWriter$WordList", "keysAt", "(I)J"⟩ ∈ gx_G := gx_c4 _ (List.mem_of_getElem? (i := 75) rfl) rfl
theorem gw_796 : Cond.methodLink "KeypadWriter" 244 ⟨"KeypadWriter$Candidates", "firstWith", "(LKeypadWriter$WordList;J)I"⟩ ∈ gx_G := gx_c4 _ (List.mem_of_getElem? (i := 76) rfl) rfl
theorem gw_797 : Cond.static ⟨"KeypadWriter$Candidates", "firstWith", "(LKeypadWriter$WordList;J)I"⟩ ∈ gx_G := gx_c4 _ (List.mem_of_getElem? (i := 77) rfl) rfl
theorem gw_798 : Cond.code ⟨"KeypadWriter$Candidates", "firstWith", "(LKeypadWriter$WordList;J)I"⟩ prog_2_method_5_code 6 (Option.some FieldType.int) ∈ gx_G := gx_c4 _ (List.mem_of_getElem? (i := 78) rfl) rfl
theorem gw_799 : Cond.methodLink "KeypadWriter$Candidates" 62 ⟨"KeypadWriter$Slots", "lengthOf", "(J)I"⟩ ∈ gx_G := gx_c4 _ (List.mem_of_getElem? (i := 79) rfl) rfl
theorem gw_800 : Cond.methodLink "KeypadWriterLaw" 165 ⟨"KeypadWriterLaw", "undo", "(LKeypadWriter;[J)I"⟩ ∈ gx_G := gx_c4 _ (List.mem_of_getElem? (i := 80) rfl) rfl
theorem gw_801 : Cond.static ⟨"KeypadWriterLaw", "undo", "(LKeypadWriter;[J)I"⟩ ∈ gx_G := gx_c4 _ (List.mem_of_getElem? (i := 81) rfl) rfl
theorem gw_802 : Cond.codeWith ⟨"KeypadWriterLaw", "undo", "(LKeypadWriter;[J)I"⟩ method_20_code 3 (Option.some FieldType.int) [(0, 8, 11, 15)] ∈ gx_G := gx_c4 _ (List.mem_of_getElem? (i := 82) rfl) rfl
theorem gw_803 : Cond.methodLink "KeypadWriterLaw" 71 ⟨"KeypadWriter", "undo", "()I"⟩ ∈ gx_G := gx_c4 _ (List.mem_of_getElem? (i := 83) rfl) rfl
theorem gw_804 : Cond.instanceMethod ⟨"KeypadWriter", "undo", "()I"⟩ ∈ gx_G := gx_c4 _ (List.mem_of_getElem? (i := 84) rfl) rfl
theorem gw_805 : Cond.selects "KeypadWriter" ⟨"KeypadWriter", "undo", "()I"⟩ ⟨"KeypadWriter", "undo", "()I"⟩ ∈ gx_G := gx_c4 _ (List.mem_of_getElem? (i := 85) rfl) rfl
theorem gw_806 : Cond.code ⟨"KeypadWriter", "undo", "()I"⟩ prog_1_method_25_code 1 (Option.some FieldType.int) ∈ gx_G := gx_c4 _ (List.mem_of_getElem? (i := 86) rfl) rfl
theorem gw_808 : Cond.methodLink "KeypadWriter" 251 ⟨"KeypadWriter$SavedStates", "popInto", "(LKeypadWriter$State;)V"⟩ ∈ gx_G := gx_c4 _ (List.mem_of_getElem? (i := 88) rfl) rfl
theorem gw_809 : Cond.instanceMethod ⟨"KeypadWriter$SavedStates", "popInto", "(LKeypadWriter$State;)V"⟩ ∈ gx_G := gx_c4 _ (List.mem_of_getElem? (i := 89) rfl) rfl
theorem gw_810 : Cond.selects "KeypadWriter$SavedStates" ⟨"KeypadWriter$SavedStates", "popInto", "(LKeypadWriter$State;)V"⟩ ⟨"KeypadWriter$SavedStates", "popInto", "(LKeypadWriter$State;)V"⟩ ∈ gx_G := gx_c4 _ (List.mem_of_getElem? (i := 90) rfl) rfl
theorem gw_811 : Cond.code ⟨"KeypadWriter$SavedStates", "popInto", "(LKeypadWriter$State;)V"⟩ prog_5_method_3_code 3 none ∈ gx_G := gx_c4 _ (List.mem_of_getElem? (i := 91) rfl) rfl
theorem gw_812 : Cond.classLink "KeypadWriterLaw" 75 "KeypadWriterModel" ∈ gx_G := gx_c4 _ (List.mem_of_getElem? (i := 92) rfl) rfl
theorem gw_813 : Cond.instantiable "KeypadWriterModel" 10 ∈ gx_G := gx_c4 _ (List.mem_of_getElem? (i := 93) rfl) rfl
theorem gw_814 : Cond.methodLink "KeypadWriterLaw" 77 ⟨"KeypadWriterModel", "<init>", "()V"⟩ ∈ gx_G := gx_c4 _ (List.mem_of_getElem? (i := 94) rfl) rfl
theorem gw_815 : Cond.instanceMethod ⟨"KeypadWriterModel", "<init>", "()V"⟩ ∈ gx_G := gx_c4 _ (List.mem_of_getElem? (i := 95) rfl) rfl
theorem gw_816 : Cond.code ⟨"KeypadWriterModel", "<init>", "()V"⟩ prog_11_method_1_code 1 none ∈ gx_G := gx_c4 _ (List.mem_of_getElem? (i := 96) rfl) rfl
theorem gw_817 : Cond.methodLink "KeypadWriterModel" 1 ⟨"java/lang/Object", "<init>", "()V"⟩ ∈ gx_G := gx_c4 _ (List.mem_of_getElem? (i := 97) rfl) rfl
theorem gw_818 : Cond.fieldLink "KeypadWriterModel" 7 "KeypadWriterModel" "all" "[I" ∈ gx_G := gx_c4 _ (List.mem_of_getElem? (i := 98) rfl) rfl
theorem gw_819 : Cond.fieldLink "KeypadWriterModel" 13 "KeypadWriterModel" "saved" "[I" ∈ gx_G := gx_c4 _ (List.mem_of_getElem? (i := 99) rfl) rfl
theorem gw_820 : Cond.fieldLink "KeypadWriterModel" 16 "KeypadWriterModel" "aside" "[I" ∈ gx_G := gx_c4 _ (List.mem_of_getElem? (i := 100) rfl) rfl
theorem gw_821 : Cond.fieldLink "KeypadWriterModel" 29 "KeypadWriterModel" "savedMany" "I" ∈ gx_G := gx_c4 _ (List.mem_of_getElem? (i := 101) rfl) rfl
theorem gw_822 : Cond.fieldLink "KeypadWriterModel" 25 "KeypadWriterModel" "thrown" "I" ∈ gx_G := gx_c4 _ (List.mem_of_getElem? (i := 102) rfl) rfl
theorem gw_823 : Cond.fieldLink "KeypadWriterModel" 19 "KeypadWriterModel" "shown" "[I" ∈ gx_G := gx_c4 _ (List.mem_of_getElem? (i := 103) rfl) rfl
theorem gw_824 : Cond.fieldLink "KeypadWriterModel" 92 "KeypadWriterModel" "shownMany" "I" ∈ gx_G := gx_c4 _ (List.mem_of_getElem? (i := 104) rfl) rfl
theorem gw_825 : Cond.fieldLink "KeypadWriterModel" 22 "KeypadWriterModel" "text" "[I" ∈ gx_G := gx_c4 _ (List.mem_of_getElem? (i := 105) rfl) rfl
theorem gw_826 : Cond.fieldLink "KeypadWriterModel" 157 "KeypadWriterModel" "textLong" "I" ∈ gx_G := gx_c4 _ (List.mem_of_getElem? (i := 106) rfl) rfl
theorem gw_827 : Cond.fieldLink "KeypadWriterModel" 160 "KeypadWriterModel" "place" "I" ∈ gx_G := gx_c4 _ (List.mem_of_getElem? (i := 107) rfl) rfl
theorem gw_828 : Cond.laysFinal "KeypadWriterModel" "KeypadWriterModel" "all" "[I" ∈ gx_G := gx_c4 _ (List.mem_of_getElem? (i := 108) rfl) rfl
theorem gw_829 : Cond.soleField "KeypadWriterModel" "all" ∈ gx_G := gx_c4 _ (List.mem_of_getElem? (i := 109) rfl) rfl
theorem gw_830 : Cond.laysFinal "KeypadWriterModel" "KeypadWriterModel" "saved" "[I" ∈ gx_G := gx_c4 _ (List.mem_of_getElem? (i := 110) rfl) rfl
theorem gw_831 : Cond.soleField "KeypadWriterModel" "saved" ∈ gx_G := gx_c4 _ (List.mem_of_getElem? (i := 111) rfl) rfl
theorem gw_832 : Cond.laysFinal "KeypadWriterModel" "KeypadWriterModel" "aside" "[I" ∈ gx_G := gx_c4 _ (List.mem_of_getElem? (i := 112) rfl) rfl
theorem gw_833 : Cond.soleField "KeypadWriterModel" "aside" ∈ gx_G := gx_c4 _ (List.mem_of_getElem? (i := 113) rfl) rfl
theorem gw_834 : Cond.lays "KeypadWriterModel" "KeypadWriterModel" "savedMany" "I" ∈ gx_G := gx_c4 _ (List.mem_of_getElem? (i := 114) rfl) rfl
theorem gw_835 : Cond.soleField "KeypadWriterModel" "savedMany" ∈ gx_G := gx_c4 _ (List.mem_of_getElem? (i := 115) rfl) rfl
theorem gw_836 : Cond.lays "KeypadWriterModel" "KeypadWriterModel" "thrown" "I" ∈ gx_G := gx_c4 _ (List.mem_of_getElem? (i := 116) rfl) rfl
theorem gw_837 : Cond.soleField "KeypadWriterModel" "thrown" ∈ gx_G := gx_c4 _ (List.mem_of_getElem? (i := 117) rfl) rfl
theorem gw_838 : Cond.laysFinal "KeypadWriterModel" "KeypadWriterModel" "shown" "[I" ∈ gx_G := gx_c4 _ (List.mem_of_getElem? (i := 118) rfl) rfl
theorem gw_839 : Cond.soleField "KeypadWriterModel" "shown" ∈ gx_G := gx_c4 _ (List.mem_of_getElem? (i := 119) rfl) rfl
theorem gw_840 : Cond.lays "KeypadWriterModel" "KeypadWriterModel" "shownMany" "I" ∈ gx_G := gx_c4 _ (List.mem_of_getElem? (i := 120) rfl) rfl
theorem gw_841 : Cond.soleField "KeypadWriterModel" "shownMany" ∈ gx_G := gx_c4 _ (List.mem_of_getElem? (i := 121) rfl) rfl
theorem gw_842 : Cond.laysFinal "KeypadWriterModel" "KeypadWriterModel" "text" "[I" ∈ gx_G := gx_c4 _ (List.mem_of_getElem? (i := 122) rfl) rfl
theorem gw_843 : Cond.soleField "KeypadWriterModel" "text" ∈ gx_G := gx_c4 _ (List.mem_of_getElem? (i := 123) rfl) rfl
theorem gw_844 : Cond.lays "KeypadWriterModel" "KeypadWriterModel" "textLong" "I" ∈ gx_G := gx_c4 _ (List.mem_of_getElem? (i := 124) rfl) rfl
theorem gw_845 : Cond.soleField "KeypadWriterModel" "textLong" ∈ gx_G := gx_c4 _ (List.mem_of_getElem? (i := 125) rfl) rfl
theorem gw_846 : Cond.lays "KeypadWriterModel" "KeypadWriterModel" "place" "I" ∈ gx_G := gx_c4 _ (List.mem_of_getElem? (i := 126) rfl) rfl
theorem gw_847 : Cond.soleField "KeypadWriterModel" "place" ∈ gx_G := gx_c4 _ (List.mem_of_getElem? (i := 127) rfl) rfl
theorem gw_848 : Cond.superclass "KeypadWriterModel" "java/lang/Object" ∈ gx_G := gx_c4 _ (List.mem_of_getElem? (i := 128) rfl) rfl
theorem gw_849 : Cond.methodLink "KeypadWriterLaw" 84 ⟨"KeypadWriterModel", "thrown", "()I"⟩ ∈ gx_G := gx_c4 _ (List.mem_of_getElem? (i := 129) rfl) rfl
theorem gw_850 : Cond.instanceMethod ⟨"KeypadWriterModel", "thrown", "()I"⟩ ∈ gx_G := gx_c4 _ (List.mem_of_getElem? (i := 130) rfl) rfl
theorem gw_851 : Cond.selects "KeypadWriterModel" ⟨"KeypadWriterModel", "thrown", "()I"⟩ ⟨"KeypadWriterModel", "thrown", "()I"⟩ ∈ gx_G := gx_c4 _ (List.mem_of_getElem? (i := 131) rfl) rfl
theorem gw_852 : Cond.code ⟨"KeypadWriterModel", "thrown", "()I"⟩ prog_11_method_2_code 1 (Option.some FieldType.int) ∈ gx_G := gx_c4 _ (List.mem_of_getElem? (i := 132) rfl) rfl
theorem gw_853 : Cond.methodLink "KeypadWriterLaw" 102 ⟨"KeypadWriterModel", "word", "(II)I"⟩ ∈ gx_G := gx_c4 _ (List.mem_of_getElem? (i := 133) rfl) rfl
theorem gw_854 : Cond.instanceMethod ⟨"KeypadWriterModel", "word", "(II)I"⟩ ∈ gx_G := gx_c4 _ (List.mem_of_getElem? (i := 134) rfl) rfl
theorem gw_855 : Cond.selects "KeypadWriterModel" ⟨"KeypadWriterModel", "word", "(II)I"⟩ ⟨"KeypadWriterModel", "word", "(II)I"⟩ ∈ gx_G := gx_c4 _ (List.mem_of_getElem? (i := 135) rfl) rfl
theorem gw_856 : Cond.code ⟨"KeypadWriterModel", "word", "(II)I"⟩ prog_11_method_20_code 3 (Option.some FieldType.int) ∈ gx_G := gx_c4 _ (List.mem_of_getElem? (i := 136) rfl) rfl
theorem gw_857 : Cond.methodLink "KeypadWriterModel" 66 ⟨"KeypadWriterModel", "isWord", "(I)Z"⟩ ∈ gx_G := gx_c4 _ (List.mem_of_getElem? (i := 137) rfl) rfl
theorem gw_859 : Cond.instanceMethod ⟨"KeypadWriterModel", "isWord", "(I)Z"⟩ ∈ gx_G := gx_c4 _ (List.mem_of_getElem? (i := 139) rfl) rfl
theorem gw_860 : Cond.code ⟨"KeypadWriterModel", "isWord", "(I)Z"⟩ prog_11_method_15_code 2 (Option.some FieldType.boolean) ∈ gx_G := gx_c4 _ (List.mem_of_getElem? (i := 140) rfl) rfl
theorem gw_861 : Cond.methodLink "KeypadWriterModel" 46 ⟨"KeypadWriterModel", "in", "(JJJ)Z"⟩ ∈ gx_G := gx_c4 _ (List.mem_of_getElem? (i := 141) rfl) rfl
theorem gw_862 : Cond.static ⟨"KeypadWriterModel", "in", "(JJJ)Z"⟩ ∈ gx_G := gx_c4 _ (List.mem_of_getElem? (i := 142) rfl) rfl
theorem gw_863 : Cond.code ⟨"KeypadWriterModel", "in", "(JJJ)Z"⟩ prog_11_method_3_code 6 (Option.some FieldType.boolean) ∈ gx_G := gx_c4 _ (List.mem_of_getElem? (i := 143) rfl) rfl
theorem gw_864 : Cond.constantLong "KeypadWriterModel" 70 (4 : Int64) ∈ gx_G := gx_c4 _ (List.mem_of_getElem? (i := 144) rfl) rfl
theorem gw_865 : Cond.methodLink "KeypadWriterModel" 72 ⟨"KeypadWriterModel", "goes", "(ZZ)Z"⟩ ∈ gx_G := gx_c4 _ (List.mem_of_getElem? (i := 145) rfl) rfl
theorem gw_867 : Cond.instanceMethod ⟨"KeypadWriterModel", "goes", "(ZZ)Z"⟩ ∈ gx_G := gx_c4 _ (List.mem_of_getElem? (i := 147) rfl) rfl
theorem gw_868 : Cond.code ⟨"KeypadWriterModel", "goes", "(ZZ)Z"⟩ prog_11_method_4_code 3 (Option.some FieldType.boolean) ∈ gx_G := gx_c4 _ (List.mem_of_getElem? (i := 148) rfl) rfl
theorem gw_869 : Cond.methodLink "KeypadWriterModel" 76 ⟨"KeypadWriterModel", "wordValue", "(II)I"⟩ ∈ gx_G := gx_c4 _ (List.mem_of_getElem? (i := 149) rfl) rfl
theorem gw_871 : Cond.instanceMethod ⟨"KeypadWriterModel", "wordValue", "(II)I"⟩ ∈ gx_G := gx_c4 _ (List.mem_of_getElem? (i := 151) rfl) rfl
theorem gw_872 : Cond.code ⟨"KeypadWriterModel", "wordValue", "(II)I"⟩ prog_11_method_19_code 3 (Option.some FieldType.int) ∈ gx_G := gx_c4 _ (List.mem_of_getElem? (i := 152) rfl) rfl
theorem gw_873 : Cond.methodLink "KeypadWriterModel" 63 ⟨"KeypadWriterModel", "rankOf", "(I)I"⟩ ∈ gx_G := gx_c4 _ (List.mem_of_getElem? (i := 153) rfl) rfl
theorem gw_875 : Cond.instanceMethod ⟨"KeypadWriterModel", "rankOf", "(I)I"⟩ ∈ gx_G := gx_c4 _ (List.mem_of_getElem? (i := 155) rfl) rfl
theorem gw_876 : Cond.code ⟨"KeypadWriterModel", "rankOf", "(I)I"⟩ prog_11_method_18_code 4 (Option.some FieldType.int) ∈ gx_G := gx_c4 _ (List.mem_of_getElem? (i := 156) rfl) rfl
theorem gw_877 : Cond.methodLink "KeypadWriterModel" 59 ⟨"KeypadWriterModel", "isAhead", "(II)Z"⟩ ∈ gx_G := gx_c4 _ (List.mem_of_getElem? (i := 157) rfl) rfl
theorem gw_879 : Cond.instanceMethod ⟨"KeypadWriterModel", "isAhead", "(II)Z"⟩ ∈ gx_G := gx_c4 _ (List.mem_of_getElem? (i := 159) rfl) rfl
theorem gw_880 : Cond.code ⟨"KeypadWriterModel", "isAhead", "(II)Z"⟩ prog_11_method_17_code 3 (Option.some FieldType.boolean) ∈ gx_G := gx_c4 _ (List.mem_of_getElem? (i := 160) rfl) rfl
theorem gw_881 : Cond.methodLink "KeypadWriterModel" 50 ⟨"KeypadWriterModel", "of", "(II)I"⟩ ∈ gx_G := gx_c4 _ (List.mem_of_getElem? (i := 161) rfl) rfl
theorem gw_883 : Cond.instanceMethod ⟨"KeypadWriterModel", "of", "(II)I"⟩ ∈ gx_G := gx_c4 _ (List.mem_of_getElem? (i := 163) rfl) rfl
theorem gw_884 : Cond.code ⟨"KeypadWriterModel", "of", "(II)I"⟩ prog_11_method_13_code 3 (Option.some FieldType.int) ∈ gx_G := gx_c4 _ (List.mem_of_getElem? (i := 164) rfl) rfl
theorem gw_885 : Cond.methodLink "KeypadWriterModel" 42 ⟨"KeypadWriterModel", "at", "(II)I"⟩ ∈ gx_G := gx_c4 _ (List.mem_of_getElem? (i := 165) rfl) rfl
theorem gw_886 : Cond.static ⟨"KeypadWriterModel", "at", "(II)I"⟩ ∈ gx_G := gx_c4 _ (List.mem_of_getElem? (i := 166) rfl) rfl
theorem gw_887 : Cond.code ⟨"KeypadWriterModel", "at", "(II)I"⟩ prog_11_method_12_code 2 (Option.some FieldType.int) ∈ gx_G := gx_c4 _ (List.mem_of_getElem? (i := 167) rfl) rfl
theorem gw_888 : Cond.methodLink "KeypadWriterModel" 56 ⟨"KeypadWriterModel", "compares", "(II)I"⟩ ∈ gx_G := gx_c4 _ (List.mem_of_getElem? (i := 168) rfl) rfl
theorem gw_890 : Cond.instanceMethod ⟨"KeypadWriterModel", "compares", "(II)I"⟩ ∈ gx_G := gx_c4 _ (List.mem_of_getElem? (i := 170) rfl) rfl
theorem gw_891 : Cond.code ⟨"KeypadWriterModel", "compares", "(II)I"⟩ prog_11_method_16_code 4 (Option.some FieldType.int) ∈ gx_G := gx_c4 _ (List.mem_of_getElem? (i := 171) rfl) rfl
theorem gw_892 : Cond.methodLink "KeypadWriterModel" 53 ⟨"KeypadWriterModel", "letterOf", "(II)I"⟩ ∈ gx_G := gx_c4 _ (List.mem_of_getElem? (i := 172) rfl) rfl
theorem gw_894 : Cond.instanceMethod ⟨"KeypadWriterModel", "letterOf", "(II)I"⟩ ∈ gx_G := gx_c4 _ (List.mem_of_getElem? (i := 174) rfl) rfl
theorem gw_895 : Cond.code ⟨"KeypadWriterModel", "letterOf", "(II)I"⟩ prog_11_method_14_code 3 (Option.some FieldType.int) ∈ gx_G := gx_c4 _ (List.mem_of_getElem? (i := 175) rfl) rfl
theorem gw_896 : Cond.methodLink "KeypadWriterLaw" 105 ⟨"KeypadWriterModel", "letter", "(II)I"⟩ ∈ gx_G := gx_c4 _ (List.mem_of_getElem? (i := 176) rfl) rfl
theorem gw_897 : Cond.instanceMethod ⟨"KeypadWriterModel", "letter", "(II)I"⟩ ∈ gx_G := gx_c4 _ (List.mem_of_getElem? (i := 177) rfl) rfl
theorem gw_898 : Cond.selects "KeypadWriterModel" ⟨"KeypadWriterModel", "letter", "(II)I"⟩ ⟨"KeypadWriterModel", "letter", "(II)I"⟩ ∈ gx_G := gx_c4 _ (List.mem_of_getElem? (i := 178) rfl) rfl
theorem gw_899 : Cond.code ⟨"KeypadWriterModel", "letter", "(II)I"⟩ prog_11_method_21_code 3 (Option.some FieldType.int) ∈ gx_G := gx_c4 _ (List.mem_of_getElem? (i := 179) rfl) rfl
theorem gw_900 : Cond.methodLink "KeypadWriterLaw" 142 ⟨"KeypadWriterModel", "candidate", "(I)I"⟩ ∈ gx_G := gx_c4 _ (List.mem_of_getElem? (i := 180) rfl) rfl
theorem gw_901 : Cond.instanceMethod ⟨"KeypadWriterModel", "candidate", "(I)I"⟩ ∈ gx_G := gx_c4 _ (List.mem_of_getElem? (i := 181) rfl) rfl
theorem gw_902 : Cond.selects "KeypadWriterModel" ⟨"KeypadWriterModel", "candidate", "(I)I"⟩ ⟨"KeypadWriterModel", "candidate", "(I)I"⟩ ∈ gx_G := gx_c4 _ (List.mem_of_getElem? (i := 182) rfl) rfl
theorem gw_903 : Cond.code ⟨"KeypadWriterModel", "candidate", "(I)I"⟩ prog_11_method_27_code 2 (Option.some FieldType.int) ∈ gx_G := gx_c4 _ (List.mem_of_getElem? (i := 183) rfl) rfl
theorem gw_904 : Cond.methodLink "KeypadWriterModel" 85 ⟨"KeypadWriterModel", "candidates", "()I"⟩ ∈ gx_G := gx_c4 _ (List.mem_of_getElem? (i := 184) rfl) rfl
theorem gw_906 : Cond.instanceMethod ⟨"KeypadWriterModel", "candidates", "()I"⟩ ∈ gx_G := gx_c4 _ (List.mem_of_getElem? (i := 186) rfl) rfl
theorem gw_907 : Cond.code ⟨"KeypadWriterModel", "candidates", "()I"⟩ prog_11_method_25_code 3 (Option.some FieldType.int) ∈ gx_G := gx_c4 _ (List.mem_of_getElem? (i := 187) rfl) rfl
theorem gw_908 : Cond.methodLink "KeypadWriterModel" 82 ⟨"KeypadWriterModel", "groupOf", "(I)I"⟩ ∈ gx_G := gx_c4 _ (List.mem_of_getElem? (i := 188) rfl) rfl
theorem gw_910 : Cond.instanceMethod ⟨"KeypadWriterModel", "groupOf", "(I)I"⟩ ∈ gx_G := gx_c4 _ (List.mem_of_getElem? (i := 190) rfl) rfl
theorem gw_911 : Cond.code ⟨"KeypadWriterModel", "groupOf", "(I)I"⟩ prog_11_method_24_code 5 (Option.some FieldType.int) ∈ gx_G := gx_c4 _ (List.mem_of_getElem? (i := 191) rfl) rfl
theorem gw_912 : Cond.methodLink "KeypadWriterModel" 79 ⟨"KeypadWriterModel", "fits", "(II)Z"⟩ ∈ gx_G := gx_c4 _ (List.mem_of_getElem? (i := 192) rfl) rfl
theorem gw_914 : Cond.instanceMethod ⟨"KeypadWriterModel", "fits", "(II)Z"⟩ ∈ gx_G := gx_c4 _ (List.mem_of_getElem? (i := 194) rfl) rfl
theorem gw_915 : Cond.code ⟨"KeypadWriterModel", "fits", "(II)Z"⟩ prog_11_method_23_code 5 (Option.some FieldType.boolean) ∈ gx_G := gx_c4 _ (List.mem_of_getElem? (i := 195) rfl) rfl
theorem gw_916 : Cond.methodLink "KeypadWriterModel" 32 ⟨"KeypadWriterModel", "keyOf", "(I)I"⟩ ∈ gx_G := gx_c4 _ (List.mem_of_getElem? (i := 196) rfl) rfl
theorem gw_917 : Cond.static ⟨"KeypadWriterModel", "keyOf", "(I)I"⟩ ∈ gx_G := gx_c4 _ (List.mem_of_getElem? (i := 197) rfl) rfl
theorem gw_918 : Cond.code ⟨"KeypadWriterModel", "keyOf", "(I)I"⟩ prog_11_method_8_code 1 (Option.some FieldType.int) ∈ gx_G := gx_c4 _ (List.mem_of_getElem? (i := 198) rfl) rfl
theorem gw_919 : Cond.methodLink "KeypadWriterModel" 89 ⟨"KeypadWriterModel", "candidateAt", "(I)I"⟩ ∈ gx_G := gx_c4 _ (List.mem_of_getElem? (i := 199) rfl) rfl
theorem gw_921 : Cond.instanceMethod ⟨"KeypadWriterModel", "candidateAt", "(I)I"⟩ ∈ gx_G := gx_c4 _ (List.mem_of_getElem? (i := 201) rfl) rfl
theorem gw_922 : Cond.code ⟨"KeypadWriterModel", "candidateAt", "(I)I"⟩ prog_11_method_26_code 7 (Option.some FieldType.int) ∈ gx_G := gx_c4 _ (List.mem_of_getElem? (i := 202) rfl) rfl
theorem gw_923 : Cond.methodLink "KeypadWriterLaw" 98 ⟨"KeypadWriterModel", "setWays", "(ZI)I"⟩ ∈ gx_G := gx_c4 _ (List.mem_of_getElem? (i := 203) rfl) rfl
theorem gw_924 : Cond.instanceMethod ⟨"KeypadWriterModel", "setWays", "(ZI)I"⟩ ∈ gx_G := gx_c4 _ (List.mem_of_getElem? (i := 204) rfl) rfl
theorem gw_925 : Cond.selects "KeypadWriterModel" ⟨"KeypadWriterModel", "setWays", "(ZI)I"⟩ ⟨"KeypadWriterModel", "setWays", "(ZI)I"⟩ ∈ gx_G := gx_c4 _ (List.mem_of_getElem? (i := 205) rfl) rfl
theorem gw_926 : Cond.code ⟨"KeypadWriterModel", "setWays", "(ZI)I"⟩ prog_11_method_29_code 4 (Option.some FieldType.int) ∈ gx_G := gx_c4 _ (List.mem_of_getElem? (i := 206) rfl) rfl
theorem gw_927 : Cond.constantLong "KeypadWriterModel" 95 (50 : Int64) ∈ gx_G := gx_c4 _ (List.mem_of_getElem? (i := 207) rfl) rfl
theorem gw_928 : Cond.methodLink "KeypadWriterModel" 97 ⟨"KeypadWriterModel", "save", "()V"⟩ ∈ gx_G := gx_c4 _ (List.mem_of_getElem? (i := 208) rfl) rfl
theorem gw_930 : Cond.instanceMethod ⟨"KeypadWriterModel", "save", "()V"⟩ ∈ gx_G := gx_c4 _ (List.mem_of_getElem? (i := 210) rfl) rfl
theorem gw_931 : Cond.code ⟨"KeypadWriterModel", "save", "()V"⟩ prog_11_method_5_code 2 none ∈ gx_G := gx_c4 _ (List.mem_of_getElem? (i := 211) rfl) rfl
theorem gw_932 : Cond.methodLink "KeypadWriterLaw" 108 ⟨"KeypadWriterModel", "press", "(I)I"⟩ ∈ gx_G := gx_c4 _ (List.mem_of_getElem? (i := 212) rfl) rfl
theorem gw_933 : Cond.instanceMethod ⟨"KeypadWriterModel", "press", "(I)I"⟩ ∈ gx_G := gx_c4 _ (List.mem_of_getElem? (i := 213) rfl) rfl
theorem gw_934 : Cond.selects "KeypadWriterModel" ⟨"KeypadWriterModel", "press", "(I)I"⟩ ⟨"KeypadWriterModel", "press", "(I)I"⟩ ∈ gx_G := gx_c4 _ (List.mem_of_getElem? (i := 214) rfl) rfl
theorem gw_935 : Cond.code ⟨"KeypadWriterModel", "press", "(I)I"⟩ prog_11_method_30_code 4 (Option.some FieldType.int) ∈ gx_G := gx_c4 _ (List.mem_of_getElem? (i := 215) rfl) rfl
theorem gw_936 : Cond.constantLong "KeypadWriterModel" 100 (2 : Int64) ∈ gx_G := gx_c4 _ (List.mem_of_getElem? (i := 216) rfl) rfl
theorem gw_937 : Cond.constantLong "KeypadWriterModel" 102 (9 : Int64) ∈ gx_G := gx_c4 _ (List.mem_of_getElem? (i := 217) rfl) rfl
theorem gw_938 : Cond.methodLink "KeypadWriterModel" 104 ⟨"KeypadWriterModel", "nextOn", "(I)I"⟩ ∈ gx_G := gx_c4 _ (List.mem_of_getElem? (i := 218) rfl) rfl
theorem gw_939 : Cond.static ⟨"KeypadWriterModel", "nextOn", "(I)I"⟩ ∈ gx_G := gx_c4 _ (List.mem_of_getElem? (i := 219) rfl) rfl
theorem gw_940 : Cond.code ⟨"KeypadWriterModel", "nextOn", "(I)I"⟩ prog_11_method_11_code 2 (Option.some FieldType.int) ∈ gx_G := gx_c4 _ (List.mem_of_getElem? (i := 220) rfl) rfl
theorem gw_941 : Cond.methodLink "KeypadWriterModel" 36 ⟨"KeypadWriterModel", "firstOf", "(I)I"⟩ ∈ gx_G := gx_c4 _ (List.mem_of_getElem? (i := 221) rfl) rfl
theorem gw_942 : Cond.static ⟨"KeypadWriterModel", "firstOf", "(I)I"⟩ ∈ gx_G := gx_c4 _ (List.mem_of_getElem? (i := 222) rfl) rfl
theorem gw_943 : Cond.code ⟨"KeypadWriterModel", "firstOf", "(I)I"⟩ prog_11_method_9_code 1 (Option.some FieldType.int) ∈ gx_G := gx_c4 _ (List.mem_of_getElem? (i := 223) rfl) rfl
theorem gw_944 : Cond.methodLink "KeypadWriterModel" 39 ⟨"KeypadWriterModel", "lettersOn", "(I)I"⟩ ∈ gx_G := gx_c4 _ (List.mem_of_getElem? (i := 224) rfl) rfl
theorem gw_945 : Cond.static ⟨"KeypadWriterModel", "lettersOn", "(I)I"⟩ ∈ gx_G := gx_c4 _ (List.mem_of_getElem? (i := 225) rfl) rfl
theorem gw_946 : Cond.code ⟨"KeypadWriterModel", "lettersOn", "(I)I"⟩ prog_11_method_10_code 1 (Option.some FieldType.int) ∈ gx_G := gx_c4 _ (List.mem_of_getElem? (i := 226) rfl) rfl
theorem gw_947 : Cond.methodLink "KeypadWriterLaw" 112 ⟨"KeypadWriterModel", "pause", "()I"⟩ ∈ gx_G := gx_c4 _ (List.mem_of_getElem? (i := 227) rfl) rfl
theorem gw_948 : Cond.instanceMethod ⟨"KeypadWriterModel", "pause", "()I"⟩ ∈ gx_G := gx_c4 _ (List.mem_of_getElem? (i := 228) rfl) rfl
theorem gw_949 : Cond.selects "KeypadWriterModel" ⟨"KeypadWriterModel", "pause", "()I"⟩ ⟨"KeypadWriterModel", "pause", "()I"⟩ ∈ gx_G := gx_c4 _ (List.mem_of_getElem? (i := 229) rfl) rfl
theorem gw_950 : Cond.code ⟨"KeypadWriterModel", "pause", "()I"⟩ prog_11_method_31_code 2 (Option.some FieldType.int) ∈ gx_G := gx_c4 _ (List.mem_of_getElem? (i := 230) rfl) rfl
theorem gw_951 : Cond.methodLink "KeypadWriterLaw" 117 ⟨"KeypadWriterModel", "mode", "(Z)I"⟩ ∈ gx_G := gx_c4 _ (List.mem_of_getElem? (i := 231) rfl) rfl
theorem gw_952 : Cond.instanceMethod ⟨"KeypadWriterModel", "mode", "(Z)I"⟩ ∈ gx_G := gx_c4 _ (List.mem_of_getElem? (i := 232) rfl) rfl
theorem gw_953 : Cond.selects "KeypadWriterModel" ⟨"KeypadWriterModel", "mode", "(Z)I"⟩ ⟨"KeypadWriterModel", "mode", "(Z)I"⟩ ∈ gx_G := gx_c4 _ (List.mem_of_getElem? (i := 233) rfl) rfl
theorem gw_954 : Cond.code ⟨"KeypadWriterModel", "mode", "(Z)I"⟩ prog_11_method_32_code 3 (Option.some FieldType.int) ∈ gx_G := gx_c4 _ (List.mem_of_getElem? (i := 234) rfl) rfl
theorem gw_955 : Cond.methodLink "KeypadWriterModel" 107 ⟨"KeypadWriterModel", "laysDisplay", "()V"⟩ ∈ gx_G := gx_c4 _ (List.mem_of_getElem? (i := 235) rfl) rfl
theorem gw_957 : Cond.instanceMethod ⟨"KeypadWriterModel", "laysDisplay", "()V"⟩ ∈ gx_G := gx_c4 _ (List.mem_of_getElem? (i := 237) rfl) rfl
theorem gw_958 : Cond.code ⟨"KeypadWriterModel", "laysDisplay", "()V"⟩ prog_11_method_28_code 5 none ∈ gx_G := gx_c4 _ (List.mem_of_getElem? (i := 238) rfl) rfl
theorem gw_959 : Cond.methodLink "KeypadWriterLaw" 121 ⟨"KeypadWriterModel", "next", "()I"⟩ ∈ gx_G := gx_c4 _ (List.mem_of_getElem? (i := 239) rfl) rfl
theorem gw_960 : Cond.instanceMethod ⟨"KeypadWriterModel", "next", "()I"⟩ ∈ gx_G := gx_c5 _ (List.mem_of_getElem? (i := 0) rfl) rfl
theorem gw_961 : Cond.selects "KeypadWriterModel" ⟨"KeypadWriterModel", "next", "()I"⟩ ⟨"KeypadWriterModel", "next", "()I"⟩ ∈ gx_G := gx_c5 _ (List.mem_of_getElem? (i := 1) rfl) rfl
theorem gw_962 : Cond.code ⟨"KeypadWriterModel", "next", "()I"⟩ prog_11_method_33_code 2 (Option.some FieldType.int) ∈ gx_G := gx_c5 _ (List.mem_of_getElem? (i := 2) rfl) rfl
theorem gw_963 : Cond.methodLink "KeypadWriterLaw" 124 ⟨"KeypadWriterModel", "erase", "()I"⟩ ∈ gx_G := gx_c5 _ (List.mem_of_getElem? (i := 3) rfl) rfl
theorem gw_964 : Cond.instanceMethod ⟨"KeypadWriterModel", "erase", "()I"⟩ ∈ gx_G := gx_c5 _ (List.mem_of_getElem? (i := 4) rfl) rfl
theorem gw_965 : Cond.selects "KeypadWriterModel" ⟨"KeypadWriterModel", "erase", "()I"⟩ ⟨"KeypadWriterModel", "erase", "()I"⟩ ∈ gx_G := gx_c5 _ (List.mem_of_getElem? (i := 5) rfl) rfl
theorem gw_966 : Cond.code ⟨"KeypadWriterModel", "erase", "()I"⟩ prog_11_method_35_code 1 (Option.some FieldType.int) ∈ gx_G := gx_c5 _ (List.mem_of_getElem? (i := 6) rfl) rfl
theorem gw_967 : Cond.methodLink "KeypadWriterModel" 110 ⟨"KeypadWriterModel", "goesFromText", "(I)V"⟩ ∈ gx_G := gx_c5 _ (List.mem_of_getElem? (i := 7) rfl) rfl
theorem gw_969 : Cond.instanceMethod ⟨"KeypadWriterModel", "goesFromText", "(I)V"⟩ ∈ gx_G := gx_c5 _ (List.mem_of_getElem? (i := 9) rfl) rfl
theorem gw_970 : Cond.code ⟨"KeypadWriterModel", "goesFromText", "(I)V"⟩ prog_11_method_34_code 3 none ∈ gx_G := gx_c5 _ (List.mem_of_getElem? (i := 10) rfl) rfl
theorem gw_971 : Cond.methodLink "KeypadWriterLaw" 127 ⟨"KeypadWriterModel", "accept", "()I"⟩ ∈ gx_G := gx_c5 _ (List.mem_of_getElem? (i := 11) rfl) rfl
theorem gw_972 : Cond.instanceMethod ⟨"KeypadWriterModel", "accept", "()I"⟩ ∈ gx_G := gx_c5 _ (List.mem_of_getElem? (i := 12) rfl) rfl
theorem gw_973 : Cond.selects "KeypadWriterModel" ⟨"KeypadWriterModel", "accept", "()I"⟩ ⟨"KeypadWriterModel", "accept", "()I"⟩ ∈ gx_G := gx_c5 _ (List.mem_of_getElem? (i := 13) rfl) rfl
theorem gw_974 : Cond.code ⟨"KeypadWriterModel", "accept", "()I"⟩ prog_11_method_42_code 4 (Option.some FieldType.int) ∈ gx_G := gx_c5 _ (List.mem_of_getElem? (i := 14) rfl) rfl
theorem gw_975 : Cond.methodLink "KeypadWriterModel" 132 ⟨"KeypadWriterModel", "uses", "()V"⟩ ∈ gx_G := gx_c5 _ (List.mem_of_getElem? (i := 15) rfl) rfl
theorem gw_977 : Cond.instanceMethod ⟨"KeypadWriterModel", "uses", "()V"⟩ ∈ gx_G := gx_c5 _ (List.mem_of_getElem? (i := 17) rfl) rfl
theorem gw_978 : Cond.code ⟨"KeypadWriterModel", "uses", "()V"⟩ prog_11_method_41_code 3 none ∈ gx_G := gx_c5 _ (List.mem_of_getElem? (i := 18) rfl) rfl
theorem gw_979 : Cond.methodLink "KeypadWriterModel" 123 ⟨"KeypadWriterModel", "shownWord", "()I"⟩ ∈ gx_G := gx_c5 _ (List.mem_of_getElem? (i := 19) rfl) rfl
theorem gw_981 : Cond.instanceMethod ⟨"KeypadWriterModel", "shownWord", "()I"⟩ ∈ gx_G := gx_c5 _ (List.mem_of_getElem? (i := 21) rfl) rfl
theorem gw_982 : Cond.code ⟨"KeypadWriterModel", "shownWord", "()I"⟩ prog_11_method_37_code 3 (Option.some FieldType.int) ∈ gx_G := gx_c5 _ (List.mem_of_getElem? (i := 22) rfl) rfl
theorem gw_983 : Cond.methodLink "KeypadWriterModel" 114 ⟨"KeypadWriterModel", "isShown", "(I)Z"⟩ ∈ gx_G := gx_c5 _ (List.mem_of_getElem? (i := 23) rfl) rfl
theorem gw_985 : Cond.instanceMethod ⟨"KeypadWriterModel", "isShown", "(I)Z"⟩ ∈ gx_G := gx_c5 _ (List.mem_of_getElem? (i := 25) rfl) rfl
theorem gw_986 : Cond.code ⟨"KeypadWriterModel", "isShown", "(I)Z"⟩ prog_11_method_36_code 4 (Option.some FieldType.boolean) ∈ gx_G := gx_c5 _ (List.mem_of_getElem? (i := 26) rfl) rfl
theorem gw_987 : Cond.methodLink "KeypadWriterModel" 126 ⟨"KeypadWriterModel", "adds", "(I)V"⟩ ∈ gx_G := gx_c5 _ (List.mem_of_getElem? (i := 27) rfl) rfl
theorem gw_989 : Cond.instanceMethod ⟨"KeypadWriterModel", "adds", "(I)V"⟩ ∈ gx_G := gx_c5 _ (List.mem_of_getElem? (i := 29) rfl) rfl
theorem gw_990 : Cond.code ⟨"KeypadWriterModel", "adds", "(I)V"⟩ prog_11_method_39_code 5 none ∈ gx_G := gx_c5 _ (List.mem_of_getElem? (i := 30) rfl) rfl
theorem gw_991 : Cond.methodLink "KeypadWriterModel" 117 ⟨"KeypadWriterModel", "lowestAdded", "()I"⟩ ∈ gx_G := gx_c5 _ (List.mem_of_getElem? (i := 31) rfl) rfl
theorem gw_993 : Cond.instanceMethod ⟨"KeypadWriterModel", "lowestAdded", "()I"⟩ ∈ gx_G := gx_c5 _ (List.mem_of_getElem? (i := 33) rfl) rfl
theorem gw_994 : Cond.code ⟨"KeypadWriterModel", "lowestAdded", "()I"⟩ prog_11_method_38_code 4 (Option.some FieldType.int) ∈ gx_G := gx_c5 _ (List.mem_of_getElem? (i := 34) rfl) rfl
theorem gw_995 : Cond.methodLink "KeypadWriterModel" 120 ⟨"KeypadWriterModel", "leaves", "(I)V"⟩ ∈ gx_G := gx_c5 _ (List.mem_of_getElem? (i := 35) rfl) rfl
theorem gw_997 : Cond.instanceMethod ⟨"KeypadWriterModel", "leaves", "(I)V"⟩ ∈ gx_G := gx_c5 _ (List.mem_of_getElem? (i := 37) rfl) rfl
theorem gw_998 : Cond.code ⟨"KeypadWriterModel", "leaves", "(I)V"⟩ prog_11_method_22_code 3 none ∈ gx_G := gx_c5 _ (List.mem_of_getElem? (i := 38) rfl) rfl
theorem gw_999 : Cond.methodLink "KeypadWriterModel" 129 ⟨"KeypadWriterModel", "ages", "()V"⟩ ∈ gx_G := gx_c5 _ (List.mem_of_getElem? (i := 39) rfl) rfl
theorem gw_1001 : Cond.instanceMethod ⟨"KeypadWriterModel", "ages", "()V"⟩ ∈ gx_G := gx_c5 _ (List.mem_of_getElem? (i := 41) rfl) rfl
theorem gw_1002 : Cond.code ⟨"KeypadWriterModel", "ages", "()V"⟩ prog_11_method_40_code 2 none ∈ gx_G := gx_c5 _ (List.mem_of_getElem? (i := 42) rfl) rfl
theorem gw_1003 : Cond.methodLink "KeypadWriterLaw" 130 ⟨"KeypadWriterModel", "open", "(I)I"⟩ ∈ gx_G := gx_c5 _ (List.mem_of_getElem? (i := 43) rfl) rfl
theorem gw_1004 : Cond.instanceMethod ⟨"KeypadWriterModel", "open", "(I)I"⟩ ∈ gx_G := gx_c5 _ (List.mem_of_getElem? (i := 44) rfl) rfl
theorem gw_1005 : Cond.selects "KeypadWriterModel" ⟨"KeypadWriterModel", "open", "(I)I"⟩ ⟨"KeypadWriterModel", "open", "(I)I"⟩ ∈ gx_G := gx_c5 _ (List.mem_of_getElem? (i := 45) rfl) rfl
theorem gw_1006 : Cond.code ⟨"KeypadWriterModel", "open", "(I)I"⟩ prog_11_method_43_code 4 (Option.some FieldType.int) ∈ gx_G := gx_c5 _ (List.mem_of_getElem? (i := 46) rfl) rfl
theorem gw_1007 : Cond.methodLink "KeypadWriterLaw" 133 ⟨"KeypadWriterModel", "setting", "(I)I"⟩ ∈ gx_G := gx_c5 _ (List.mem_of_getElem? (i := 47) rfl) rfl
theorem gw_1008 : Cond.instanceMethod ⟨"KeypadWriterModel", "setting", "(I)I"⟩ ∈ gx_G := gx_c5 _ (List.mem_of_getElem? (i := 48) rfl) rfl
theorem gw_1009 : Cond.selects "KeypadWriterModel" ⟨"KeypadWriterModel", "setting", "(I)I"⟩ ⟨"KeypadWriterModel", "setting", "(I)I"⟩ ∈ gx_G := gx_c5 _ (List.mem_of_getElem? (i := 49) rfl) rfl
theorem gw_1010 : Cond.code ⟨"KeypadWriterModel", "setting", "(I)I"⟩ prog_11_method_45_code 2 (Option.some FieldType.int) ∈ gx_G := gx_c5 _ (List.mem_of_getElem? (i := 50) rfl) rfl
theorem gw_1011 : Cond.constantLong "KeypadWriterModel" 135 (10 : Int64) ∈ gx_G := gx_c5 _ (List.mem_of_getElem? (i := 51) rfl) rfl
theorem gw_1012 : Cond.methodLink "KeypadWriterModel" 137 ⟨"KeypadWriterModel", "settingOf", "(I)I"⟩ ∈ gx_G := gx_c5 _ (List.mem_of_getElem? (i := 52) rfl) rfl
theorem gw_1014 : Cond.instanceMethod ⟨"KeypadWriterModel", "settingOf", "(I)I"⟩ ∈ gx_G := gx_c5 _ (List.mem_of_getElem? (i := 54) rfl) rfl
theorem gw_1015 : Cond.code ⟨"KeypadWriterModel", "settingOf", "(I)I"⟩ prog_11_method_44_code 2 (Option.some FieldType.int) ∈ gx_G := gx_c5 _ (List.mem_of_getElem? (i := 55) rfl) rfl
theorem gw_1016 : Cond.methodLink "KeypadWriterLaw" 136 ⟨"KeypadWriterModel", "place", "(I)I"⟩ ∈ gx_G := gx_c5 _ (List.mem_of_getElem? (i := 56) rfl) rfl
theorem gw_1017 : Cond.instanceMethod ⟨"KeypadWriterModel", "place", "(I)I"⟩ ∈ gx_G := gx_c5 _ (List.mem_of_getElem? (i := 57) rfl) rfl
theorem gw_1018 : Cond.selects "KeypadWriterModel" ⟨"KeypadWriterModel", "place", "(I)I"⟩ ⟨"KeypadWriterModel", "place", "(I)I"⟩ ∈ gx_G := gx_c5 _ (List.mem_of_getElem? (i := 58) rfl) rfl
theorem gw_1019 : Cond.code ⟨"KeypadWriterModel", "place", "(I)I"⟩ prog_11_method_46_code 2 (Option.some FieldType.int) ∈ gx_G := gx_c5 _ (List.mem_of_getElem? (i := 59) rfl) rfl
theorem gw_1020 : Cond.methodLink "KeypadWriterLaw" 139 ⟨"KeypadWriterModel", "display", "(I)I"⟩ ∈ gx_G := gx_c5 _ (List.mem_of_getElem? (i := 60) rfl) rfl
theorem gw_1021 : Cond.instanceMethod ⟨"KeypadWriterModel", "display", "(I)I"⟩ ∈ gx_G := gx_c5 _ (List.mem_of_getElem? (i := 61) rfl) rfl
theorem gw_1022 : Cond.selects "KeypadWriterModel" ⟨"KeypadWriterModel", "display", "(I)I"⟩ ⟨"KeypadWriterModel", "display", "(I)I"⟩ ∈ gx_G := gx_c5 _ (List.mem_of_getElem? (i := 62) rfl) rfl
theorem gw_1023 : Cond.code ⟨"KeypadWriterModel", "display", "(I)I"⟩ prog_11_method_47_code 2 (Option.some FieldType.int) ∈ gx_G := gx_c5 _ (List.mem_of_getElem? (i := 63) rfl) rfl
theorem gw_1024 : Cond.methodLink "KeypadWriterLaw" 145 ⟨"KeypadWriterModel", "written", "(II)I"⟩ ∈ gx_G := gx_c5 _ (List.mem_of_getElem? (i := 64) rfl) rfl
theorem gw_1025 : Cond.instanceMethod ⟨"KeypadWriterModel", "written", "(II)I"⟩ ∈ gx_G := gx_c5 _ (List.mem_of_getElem? (i := 65) rfl) rfl
theorem gw_1026 : Cond.selects "KeypadWriterModel" ⟨"KeypadWriterModel", "written", "(II)I"⟩ ⟨"KeypadWriterModel", "written", "(II)I"⟩ ∈ gx_G := gx_c5 _ (List.mem_of_getElem? (i := 66) rfl) rfl
theorem gw_1027 : Cond.code ⟨"KeypadWriterModel", "written", "(II)I"⟩ prog_11_method_48_code 5 (Option.some FieldType.int) ∈ gx_G := gx_c5 _ (List.mem_of_getElem? (i := 67) rfl) rfl
theorem gw_1028 : Cond.constantLong "KeypadWriterModel" 140 (-1 : Int64) ∈ gx_G := gx_c5 _ (List.mem_of_getElem? (i := 68) rfl) rfl
theorem gw_1029 : Cond.methodLink "KeypadWriterLaw" 148 ⟨"KeypadWriterModel", "steps", "(I)I"⟩ ∈ gx_G := gx_c5 _ (List.mem_of_getElem? (i := 69) rfl) rfl
theorem gw_1030 : Cond.instanceMethod ⟨"KeypadWriterModel", "steps", "(I)I"⟩ ∈ gx_G := gx_c5 _ (List.mem_of_getElem? (i := 70) rfl) rfl
theorem gw_1031 : Cond.selects "KeypadWriterModel" ⟨"KeypadWriterModel", "steps", "(I)I"⟩ ⟨"KeypadWriterModel", "steps", "(I)I"⟩ ∈ gx_G := gx_c5 _ (List.mem_of_getElem? (i := 71) rfl) rfl
theorem gw_1032 : Cond.code ⟨"KeypadWriterModel", "steps", "(I)I"⟩ prog_11_method_51_code 2 (Option.some FieldType.int) ∈ gx_G := gx_c5 _ (List.mem_of_getElem? (i := 72) rfl) rfl
theorem gw_1033 : Cond.methodLink "KeypadWriterModel" 145 ⟨"KeypadWriterModel", "stepsOf", "(I)I"⟩ ∈ gx_G := gx_c5 _ (List.mem_of_getElem? (i := 73) rfl) rfl
theorem gw_1035 : Cond.instanceMethod ⟨"KeypadWriterModel", "stepsOf", "(I)I"⟩ ∈ gx_G := gx_c5 _ (List.mem_of_getElem? (i := 75) rfl) rfl
theorem gw_1036 : Cond.code ⟨"KeypadWriterModel", "stepsOf", "(I)I"⟩ prog_11_method_50_code 4 (Option.some FieldType.int) ∈ gx_G := gx_c5 _ (List.mem_of_getElem? (i := 76) rfl) rfl
theorem gw_1037 : Cond.methodLink "KeypadWriterModel" 142 ⟨"KeypadWriterModel", "haveKeys", "(II)Z"⟩ ∈ gx_G := gx_c5 _ (List.mem_of_getElem? (i := 77) rfl) rfl
theorem gw_1039 : Cond.instanceMethod ⟨"KeypadWriterModel", "haveKeys", "(II)Z"⟩ ∈ gx_G := gx_c5 _ (List.mem_of_getElem? (i := 79) rfl) rfl
theorem gw_1040 : Cond.code ⟨"KeypadWriterModel", "haveKeys", "(II)Z"⟩ prog_11_method_49_code 5 (Option.some FieldType.boolean) ∈ gx_G := gx_c5 _ (List.mem_of_getElem? (i := 80) rfl) rfl
theorem gw_1041 : Cond.methodLink "KeypadWriterLaw" 152 ⟨"KeypadWriterModel", "presses", "(IZ)I"⟩ ∈ gx_G := gx_c5 _ (List.mem_of_getElem? (i := 81) rfl) rfl
theorem gw_1042 : Cond.instanceMethod ⟨"KeypadWriterModel", "presses", "(IZ)I"⟩ ∈ gx_G := gx_c5 _ (List.mem_of_getElem? (i := 82) rfl) rfl
theorem gw_1043 : Cond.selects "KeypadWriterModel" ⟨"KeypadWriterModel", "presses", "(IZ)I"⟩ ⟨"KeypadWriterModel", "presses", "(IZ)I"⟩ ∈ gx_G := gx_c5 _ (List.mem_of_getElem? (i := 83) rfl) rfl
theorem gw_1044 : Cond.code ⟨"KeypadWriterModel", "presses", "(IZ)I"⟩ prog_11_method_53_code 3 (Option.some FieldType.int) ∈ gx_G := gx_c5 _ (List.mem_of_getElem? (i := 84) rfl) rfl
theorem gw_1045 : Cond.methodLink "KeypadWriterModel" 148 ⟨"KeypadWriterModel", "pressesOf", "(IZ)I"⟩ ∈ gx_G := gx_c5 _ (List.mem_of_getElem? (i := 85) rfl) rfl
theorem gw_1047 : Cond.instanceMethod ⟨"KeypadWriterModel", "pressesOf", "(IZ)I"⟩ ∈ gx_G := gx_c5 _ (List.mem_of_getElem? (i := 87) rfl) rfl
theorem gw_1048 : Cond.code ⟨"KeypadWriterModel", "pressesOf", "(IZ)I"⟩ prog_11_method_52_code 7 (Option.some FieldType.int) ∈ gx_G := gx_c5 _ (List.mem_of_getElem? (i := 88) rfl) rfl
theorem gw_1049 : Cond.methodLink "KeypadWriterLaw" 156 ⟨"KeypadWriterModel", "clashing", "()I"⟩ ∈ gx_G := gx_c5 _ (List.mem_of_getElem? (i := 89) rfl) rfl
theorem gw_1050 : Cond.instanceMethod ⟨"KeypadWriterModel", "clashing", "()I"⟩ ∈ gx_G := gx_c5 _ (List.mem_of_getElem? (i := 90) rfl) rfl
theorem gw_1051 : Cond.selects "KeypadWriterModel" ⟨"KeypadWriterModel", "clashing", "()I"⟩ ⟨"KeypadWriterModel", "clashing", "()I"⟩ ∈ gx_G := gx_c5 _ (List.mem_of_getElem? (i := 91) rfl) rfl
theorem gw_1052 : Cond.code ⟨"KeypadWriterModel", "clashing", "()I"⟩ prog_11_method_54_code 5 (Option.some FieldType.int) ∈ gx_G := gx_c5 _ (List.mem_of_getElem? (i := 92) rfl) rfl
theorem gw_1053 : Cond.methodLink "KeypadWriterLaw" 161 ⟨"KeypadWriterModel", "saving", "()D"⟩ ∈ gx_G := gx_c5 _ (List.mem_of_getElem? (i := 93) rfl) rfl
theorem gw_1054 : Cond.instanceMethod ⟨"KeypadWriterModel", "saving", "()D"⟩ ∈ gx_G := gx_c5 _ (List.mem_of_getElem? (i := 94) rfl) rfl
theorem gw_1055 : Cond.selects "KeypadWriterModel" ⟨"KeypadWriterModel", "saving", "()D"⟩ ⟨"KeypadWriterModel", "saving", "()D"⟩ ∈ gx_G := gx_c5 _ (List.mem_of_getElem? (i := 95) rfl) rfl
theorem gw_1056 : Cond.code ⟨"KeypadWriterModel", "saving", "()D"⟩ prog_11_method_55_code 5 (Option.some FieldType.double) ∈ gx_G := gx_c5 _ (List.mem_of_getElem? (i := 96) rfl) rfl
theorem gw_1057 : Cond.methodLink "KeypadWriterLaw" 164 ⟨"KeypadWriterModel", "shortest", "(I)I"⟩ ∈ gx_G := gx_c5 _ (List.mem_of_getElem? (i := 97) rfl) rfl
theorem gw_1058 : Cond.instanceMethod ⟨"KeypadWriterModel", "shortest", "(I)I"⟩ ∈ gx_G := gx_c5 _ (List.mem_of_getElem? (i := 98) rfl) rfl
theorem gw_1059 : Cond.selects "KeypadWriterModel" ⟨"KeypadWriterModel", "shortest", "(I)I"⟩ ⟨"KeypadWriterModel", "shortest", "(I)I"⟩ ∈ gx_G := gx_c5 _ (List.mem_of_getElem? (i := 99) rfl) rfl
theorem gw_1060 : Cond.code ⟨"KeypadWriterModel", "shortest", "(I)I"⟩ prog_11_method_57_code 3 (Option.some FieldType.int) ∈ gx_G := gx_c5 _ (List.mem_of_getElem? (i := 100) rfl) rfl
theorem gw_1061 : Cond.methodLink "KeypadWriterModel" 152 ⟨"KeypadWriterModel", "isFirst", "(II)Z"⟩ ∈ gx_G := gx_c5 _ (List.mem_of_getElem? (i := 101) rfl) rfl
theorem gw_1063 : Cond.instanceMethod ⟨"KeypadWriterModel", "isFirst", "(II)Z"⟩ ∈ gx_G := gx_c5 _ (List.mem_of_getElem? (i := 103) rfl) rfl
theorem gw_1064 : Cond.code ⟨"KeypadWriterModel", "isFirst", "(II)Z"⟩ prog_11_method_56_code 8 (Option.some FieldType.boolean) ∈ gx_G := gx_c5 _ (List.mem_of_getElem? (i := 104) rfl) rfl
theorem gw_1065 : Cond.methodLink "KeypadWriterLaw" 83 ⟨"KeypadWriterModel", "append", "(I)I"⟩ ∈ gx_G := gx_c5 _ (List.mem_of_getElem? (i := 105) rfl) rfl
theorem gw_1066 : Cond.instanceMethod ⟨"KeypadWriterModel", "append", "(I)I"⟩ ∈ gx_G := gx_c5 _ (List.mem_of_getElem? (i := 106) rfl) rfl
theorem gw_1067 : Cond.selects "KeypadWriterModel" ⟨"KeypadWriterModel", "append", "(I)I"⟩ ⟨"KeypadWriterModel", "append", "(I)I"⟩ ∈ gx_G := gx_c5 _ (List.mem_of_getElem? (i := 107) rfl) rfl
theorem gw_1068 : Cond.code ⟨"KeypadWriterModel", "append", "(I)I"⟩ prog_11_method_58_code 2 (Option.some FieldType.int) ∈ gx_G := gx_c5 _ (List.mem_of_getElem? (i := 108) rfl) rfl
theorem gw_1069 : Cond.constantLong "KeypadWriterModel" 155 (127 : Int64) ∈ gx_G := gx_c5 _ (List.mem_of_getElem? (i := 109) rfl) rfl
theorem gw_1070 : Cond.methodLink "KeypadWriterLaw" 90 ⟨"KeypadWriterModel", "clearText", "()I"⟩ ∈ gx_G := gx_c5 _ (List.mem_of_getElem? (i := 110) rfl) rfl
theorem gw_1071 : Cond.instanceMethod ⟨"KeypadWriterModel", "clearText", "()I"⟩ ∈ gx_G := gx_c5 _ (List.mem_of_getElem? (i := 111) rfl) rfl
theorem gw_1072 : Cond.selects "KeypadWriterModel" ⟨"KeypadWriterModel", "clearText", "()I"⟩ ⟨"KeypadWriterModel", "clearText", "()I"⟩ ∈ gx_G := gx_c5 _ (List.mem_of_getElem? (i := 112) rfl) rfl
theorem gw_1073 : Cond.code ⟨"KeypadWriterModel", "clearText", "()I"⟩ prog_11_method_59_code 2 (Option.some FieldType.int) ∈ gx_G := gx_c5 _ (List.mem_of_getElem? (i := 113) rfl) rfl
theorem gw_1074 : Cond.methodLink "KeypadWriterLaw" 94 ⟨"KeypadWriterModel", "load", "()I"⟩ ∈ gx_G := gx_c5 _ (List.mem_of_getElem? (i := 114) rfl) rfl
theorem gw_1075 : Cond.instanceMethod ⟨"KeypadWriterModel", "load", "()I"⟩ ∈ gx_G := gx_c5 _ (List.mem_of_getElem? (i := 115) rfl) rfl
theorem gw_1076 : Cond.selects "KeypadWriterModel" ⟨"KeypadWriterModel", "load", "()I"⟩ ⟨"KeypadWriterModel", "load", "()I"⟩ ∈ gx_G := gx_c5 _ (List.mem_of_getElem? (i := 116) rfl) rfl
theorem gw_1077 : Cond.code ⟨"KeypadWriterModel", "load", "()I"⟩ prog_11_method_64_code 3 (Option.some FieldType.int) ∈ gx_G := gx_c5 _ (List.mem_of_getElem? (i := 117) rfl) rfl
theorem gw_1078 : Cond.methodLink "KeypadWriterModel" 181 ⟨"KeypadWriterModel", "lays", "()V"⟩ ∈ gx_G := gx_c5 _ (List.mem_of_getElem? (i := 118) rfl) rfl
theorem gw_1080 : Cond.instanceMethod ⟨"KeypadWriterModel", "lays", "()V"⟩ ∈ gx_G := gx_c5 _ (List.mem_of_getElem? (i := 120) rfl) rfl
theorem gw_1081 : Cond.code ⟨"KeypadWriterModel", "lays", "()V"⟩ prog_11_method_6_code 2 none ∈ gx_G := gx_c5 _ (List.mem_of_getElem? (i := 121) rfl) rfl
theorem gw_1082 : Cond.methodLink "KeypadWriterModel" 184 ⟨"KeypadWriterModel", "readsItem", "()Z"⟩ ∈ gx_G := gx_c5 _ (List.mem_of_getElem? (i := 122) rfl) rfl
theorem gw_1084 : Cond.instanceMethod ⟨"KeypadWriterModel", "readsItem", "()Z"⟩ ∈ gx_G := gx_c5 _ (List.mem_of_getElem? (i := 124) rfl) rfl
theorem gw_1085 : Cond.code ⟨"KeypadWriterModel", "readsItem", "()Z"⟩ prog_11_method_63_code 3 (Option.some FieldType.boolean) ∈ gx_G := gx_c5 _ (List.mem_of_getElem? (i := 125) rfl) rfl
theorem gw_1086 : Cond.methodLink "KeypadWriterModel" 170 ⟨"KeypadWriterModel", "readsWord", "()Z"⟩ ∈ gx_G := gx_c5 _ (List.mem_of_getElem? (i := 126) rfl) rfl
theorem gw_1088 : Cond.instanceMethod ⟨"KeypadWriterModel", "readsWord", "()Z"⟩ ∈ gx_G := gx_c5 _ (List.mem_of_getElem? (i := 128) rfl) rfl
theorem gw_1089 : Cond.code ⟨"KeypadWriterModel", "readsWord", "()Z"⟩ prog_11_method_62_code 6 (Option.some FieldType.boolean) ∈ gx_G := gx_c5 _ (List.mem_of_getElem? (i := 129) rfl) rfl
theorem gw_1090 : Cond.methodLink "KeypadWriterModel" 163 ⟨"KeypadWriterModel", "here", "()I"⟩ ∈ gx_G := gx_c5 _ (List.mem_of_getElem? (i := 130) rfl) rfl
theorem gw_1092 : Cond.instanceMethod ⟨"KeypadWriterModel", "here", "()I"⟩ ∈ gx_G := gx_c5 _ (List.mem_of_getElem? (i := 132) rfl) rfl
theorem gw_1093 : Cond.code ⟨"KeypadWriterModel", "here", "()I"⟩ prog_11_method_60_code 1 (Option.some FieldType.int) ∈ gx_G := gx_c5 _ (List.mem_of_getElem? (i := 133) rfl) rfl
theorem gw_1094 : Cond.constantLong "KeypadWriterModel" 166 (97 : Int64) ∈ gx_G := gx_c5 _ (List.mem_of_getElem? (i := 134) rfl) rfl
theorem gw_1095 : Cond.constantLong "KeypadWriterModel" 168 (122 : Int64) ∈ gx_G := gx_c5 _ (List.mem_of_getElem? (i := 135) rfl) rfl
theorem gw_1096 : Cond.constantLong "KeypadWriterModel" 174 (48 : Int64) ∈ gx_G := gx_c5 _ (List.mem_of_getElem? (i := 136) rfl) rfl
theorem gw_1097 : Cond.constantLong "KeypadWriterModel" 176 (57 : Int64) ∈ gx_G := gx_c5 _ (List.mem_of_getElem? (i := 137) rfl) rfl
theorem gw_1098 : Cond.methodLink "KeypadWriterModel" 178 ⟨"KeypadWriterModel", "passesByte", "(I)Z"⟩ ∈ gx_G := gx_c5 _ (List.mem_of_getElem? (i := 138) rfl) rfl
theorem gw_1100 : Cond.instanceMethod ⟨"KeypadWriterModel", "passesByte", "(I)Z"⟩ ∈ gx_G := gx_c5 _ (List.mem_of_getElem? (i := 140) rfl) rfl
theorem gw_1101 : Cond.code ⟨"KeypadWriterModel", "passesByte", "(I)Z"⟩ prog_11_method_61_code 3 (Option.some FieldType.boolean) ∈ gx_G := gx_c5 _ (List.mem_of_getElem? (i := 141) rfl) rfl
theorem gw_1102 : Cond.methodLink "KeypadWriterModel" 187 ⟨"KeypadWriterModel", "takesBack", "()V"⟩ ∈ gx_G := gx_c5 _ (List.mem_of_getElem? (i := 142) rfl) rfl
theorem gw_1104 : Cond.instanceMethod ⟨"KeypadWriterModel", "takesBack", "()V"⟩ ∈ gx_G := gx_c5 _ (List.mem_of_getElem? (i := 144) rfl) rfl
theorem gw_1105 : Cond.code ⟨"KeypadWriterModel", "takesBack", "()V"⟩ prog_11_method_7_code 2 none ∈ gx_G := gx_c5 _ (List.mem_of_getElem? (i := 145) rfl) rfl
theorem gw_1106 : Cond.methodLink "KeypadWriterLaw" 167 ⟨"KeypadWriterModel", "undo", "()I"⟩ ∈ gx_G := gx_c5 _ (List.mem_of_getElem? (i := 146) rfl) rfl
theorem gw_1107 : Cond.instanceMethod ⟨"KeypadWriterModel", "undo", "()I"⟩ ∈ gx_G := gx_c5 _ (List.mem_of_getElem? (i := 147) rfl) rfl
theorem gw_1108 : Cond.selects "KeypadWriterModel" ⟨"KeypadWriterModel", "undo", "()I"⟩ ⟨"KeypadWriterModel", "undo", "()I"⟩ ∈ gx_G := gx_c5 _ (List.mem_of_getElem? (i := 148) rfl) rfl
theorem gw_1109 : Cond.code ⟨"KeypadWriterModel", "undo", "()I"⟩ prog_11_method_65_code 2 (Option.some FieldType.int) ∈ gx_G := gx_c5 _ (List.mem_of_getElem? (i := 149) rfl) rfl
theorem gw_1110 : Cond.methodLink "KeypadWriterLaw" 172 ⟨"KeypadWriterModel", "digest", "()J"⟩ ∈ gx_G := gx_c5 _ (List.mem_of_getElem? (i := 150) rfl) rfl
theorem gw_1111 : Cond.instanceMethod ⟨"KeypadWriterModel", "digest", "()J"⟩ ∈ gx_G := gx_c5 _ (List.mem_of_getElem? (i := 151) rfl) rfl
theorem gw_1112 : Cond.selects "KeypadWriterModel" ⟨"KeypadWriterModel", "digest", "()J"⟩ ⟨"KeypadWriterModel", "digest", "()J"⟩ ∈ gx_G := gx_c5 _ (List.mem_of_getElem? (i := 152) rfl) rfl
theorem gw_1113 : Cond.code ⟨"KeypadWriterModel", "digest", "()J"⟩ prog_11_method_68_code 6 (Option.some FieldType.long) ∈ gx_G := gx_c5 _ (List.mem_of_getElem? (i := 153) rfl) rfl
theorem gw_1114 : Cond.constantLong "KeypadWriterModel" 196 (3271 : Int64) ∈ gx_G := gx_c5 _ (List.mem_of_getElem? (i := 154) rfl) rfl
theorem gw_1115 : Cond.methodLink "KeypadWriterModel" 192 ⟨"KeypadWriterModel", "sums", "(JJ)J"⟩ ∈ gx_G := gx_c5 _ (List.mem_of_getElem? (i := 155) rfl) rfl
theorem gw_1116 : Cond.static ⟨"KeypadWriterModel", "sums", "(JJ)J"⟩ ∈ gx_G := gx_c5 _ (List.mem_of_getElem? (i := 156) rfl) rfl
theorem gw_1117 : Cond.code ⟨"KeypadWriterModel", "sums", "(JJ)J"⟩ prog_11_method_66_code 4 (Option.some FieldType.long) ∈ gx_G := gx_c5 _ (List.mem_of_getElem? (i := 157) rfl) rfl
theorem gw_1118 : Cond.constantLong "KeypadWriterModel" 190 (31 : Int64) ∈ gx_G := gx_c5 _ (List.mem_of_getElem? (i := 158) rfl) rfl
theorem gw_1119 : Cond.methodLink "KeypadWriterModel" 198 ⟨"KeypadWriterModel", "withWord", "(JI)J"⟩ ∈ gx_G := gx_c5 _ (List.mem_of_getElem? (i := 159) rfl) rfl
theorem gw_1121 : Cond.instanceMethod ⟨"KeypadWriterModel", "withWord", "(JI)J"⟩ ∈ gx_G := gx_c5 _ (List.mem_of_getElem? (i := 161) rfl) rfl
theorem gw_1122 : Cond.code ⟨"KeypadWriterModel", "withWord", "(JI)J"⟩ prog_11_method_67_code 7 (Option.some FieldType.long) ∈ gx_G := gx_c5 _ (List.mem_of_getElem? (i := 162) rfl) rfl
/-- words that speak of nest mates and casts: they stay said while the machine warms up -/
theorem gx_n1 (w : Cond) (h : w ∈ tables_1_1) : w ∈ lw_tbl := List.mem_append_right _ (List.mem_append_left _ h)
theorem gx_n2 (w : Cond) (h : w ∈ tables_1_2) : w ∈ lw_tbl := List.mem_append_right _ (List.mem_append_right _ (List.mem_append_left _ h))
theorem gx_n3 (w : Cond) (h : w ∈ tables_1_3) : w ∈ lw_tbl := List.mem_append_right _ (List.mem_append_right _ (List.mem_append_right _ (List.mem_append_left _ h)))
theorem gx_n4 (w : Cond) (h : w ∈ tables_1_4) : w ∈ lw_tbl := List.mem_append_right _ (List.mem_append_right _ (List.mem_append_right _ (List.mem_append_right _ (List.mem_append_left _ h))))
theorem gx_n5 (w : Cond) (h : w ∈ tables_1_5) : w ∈ lw_tbl := List.mem_append_right _ (List.mem_append_right _ (List.mem_append_right _ (List.mem_append_right _ (List.mem_append_right _ (h)))))
def gx_nest : List Cond := [Cond.methodLinkNest "KeypadWriter" 9 ⟨"KeypadWriter$ListText", "<init>", "()V"⟩ "KeypadWriter", Cond.fieldLinkNest "KeypadWriter" 64 "KeypadWriter$ListText" "length" "I" "KeypadWriter", Cond.methodLinkNest "KeypadWriter" 18 ⟨"KeypadWriter$WordList", "<init>", "()V"⟩ "KeypadWriter", Cond.fieldLinkNest "KeypadWriter$Candidates" 29 "KeypadWriter$WordList" "size" "I" "KeypadWriter", Cond.fieldLinkNest "KeypadWriter" 89 "KeypadWriter$WordList" "size" "I" "KeypadWriter", Cond.methodLinkNest "KeypadWriter" 25 ⟨"KeypadWriter$State", "<init>", "()V"⟩ "KeypadWriter", Cond.methodLinkNest "KeypadWriter$State" 11 ⟨"KeypadWriter$WordList", "<init>", "()V"⟩ "KeypadWriter", Cond.methodLinkNest "KeypadWriter$State" 20 ⟨"KeypadWriter$WrittenText", "<init>", "()V"⟩ "KeypadWriter", Cond.fieldLinkNest "KeypadWriter" 186 "KeypadWriter$WrittenText" "size" "I" "KeypadWriter", Cond.fieldLinkNest "KeypadWriter$Candidates" 25 "KeypadWriter$State" "list" "LKeypadWriter$WordList;" "KeypadWriter", Cond.fieldLinkNest "KeypadWriter" 79 "KeypadWriter$State" "list" "LKeypadWriter$WordList;" "KeypadWriter", Cond.fieldLinkNest "KeypadWriter" 182 "KeypadWriter$State" "text" "LKeypadWriter$WrittenText;" "KeypadWriter", Cond.fieldLinkNest "KeypadWriter" 268 "KeypadWriter$State" "clock" "I" "KeypadWriter", Cond.fieldLinkNest "KeypadWriter" 94 "KeypadWriter$State" "ageing" "I" "KeypadWriter", Cond.fieldLinkNest "KeypadWriter$Candidates" 42 "KeypadWriter$State" "completing" "Z" "KeypadWriter", Cond.fieldLinkNest "KeypadWriter" 97 "KeypadWriter$State" "completing" "Z" "KeypadWriter", Cond.fieldLinkNest "KeypadWriter" 165 "KeypadWriter$State" "tapping" "Z" "KeypadWriter", Cond.fieldLinkNest "KeypadWriter" 138 "KeypadWriter$State" "pending" "I" "KeypadWriter", Cond.fieldLinkNest "KeypadWriter$Candidates" 46 "KeypadWriter$State" "present" "J" "KeypadWriter", Cond.fieldLinkNest "KeypadWriter" 161 "KeypadWriter$State" "present" "J" "KeypadWriter", Cond.fieldLinkNest "KeypadWriter" 86 "KeypadWriter$State" "chosen" "I" "KeypadWriter", Cond.fieldLinkNest "KeypadWriter" 179 "KeypadWriter$State" "opened" "I" "KeypadWriter", Cond.methodLinkNest "KeypadWriter$SavedStates" 17 ⟨"KeypadWriter$State", "<init>", "()V"⟩ "KeypadWriter", Cond.fieldLinkNest "KeypadWriter" 248 "KeypadWriter$SavedStates" "size" "I" "KeypadWriter", Cond.methodLinkNest "KeypadWriter" 39 ⟨"KeypadWriter$Candidates", "<init>", "()V"⟩ "KeypadWriter", Cond.fieldLinkNest "KeypadWriter" 171 "KeypadWriter$Candidates" "size" "I" "KeypadWriter", Cond.castable "java/lang/IllegalArgumentException" "java/lang/IllegalArgumentException", Cond.castable "java/lang/IllegalStateException" "java/lang/IllegalStateException", Cond.castable "java/lang/IndexOutOfBoundsException" "java/lang/IndexOutOfBoundsException"]
theorem gx_nest_in : ∀ w ∈ gx_nest, w ∈ lw_tbl := List.forall_mem_cons.mpr ⟨gx_n1 _ (List.mem_of_getElem? (i := 29) rfl), List.forall_mem_cons.mpr ⟨gx_n1 _ (List.mem_of_getElem? (i := 35) rfl), List.forall_mem_cons.mpr ⟨gx_n1 _ (List.mem_of_getElem? (i := 47) rfl), List.forall_mem_cons.mpr ⟨gx_n1 _ (List.mem_of_getElem? (i := 57) rfl), List.forall_mem_cons.mpr ⟨gx_n1 _ (List.mem_of_getElem? (i := 58) rfl), List.forall_mem_cons.mpr ⟨gx_n1 _ (List.mem_of_getElem? (i := 76) rfl), List.forall_mem_cons.mpr ⟨gx_n1 _ (List.mem_of_getElem? (i := 81) rfl), List.forall_mem_cons.mpr ⟨gx_n1 _ (List.mem_of_getElem? (i := 84) rfl), List.forall_mem_cons.mpr ⟨gx_n1 _ (List.mem_of_getElem? (i := 90) rfl), List.forall_mem_cons.mpr ⟨gx_n1 _ (List.mem_of_getElem? (i := 97) rfl), List.forall_mem_cons.mpr ⟨gx_n1 _ (List.mem_of_getElem? (i := 98) rfl), List.forall_mem_cons.mpr ⟨gx_n1 _ (List.mem_of_getElem? (i := 100) rfl), List.forall_mem_cons.mpr ⟨gx_n1 _ (List.mem_of_getElem? (i := 102) rfl), List.forall_mem_cons.mpr ⟨gx_n1 _ (List.mem_of_getElem? (i := 104) rfl), List.forall_mem_cons.mpr ⟨gx_n1 _ (List.mem_of_getElem? (i := 106) rfl), List.forall_mem_cons.mpr ⟨gx_n1 _ (List.mem_of_getElem? (i := 107) rfl), List.forall_mem_cons.mpr ⟨gx_n1 _ (List.mem_of_getElem? (i := 109) rfl), List.forall_mem_cons.mpr ⟨gx_n1 _ (List.mem_of_getElem? (i := 111) rfl), List.forall_mem_cons.mpr ⟨gx_n1 _ (List.mem_of_getElem? (i := 113) rfl), List.forall_mem_cons.mpr ⟨gx_n1 _ (List.mem_of_getElem? (i := 114) rfl), List.forall_mem_cons.mpr ⟨gx_n1 _ (List.mem_of_getElem? (i := 116) rfl), List.forall_mem_cons.mpr ⟨gx_n1 _ (List.mem_of_getElem? (i := 118) rfl), List.forall_mem_cons.mpr ⟨gx_n1 _ (List.mem_of_getElem? (i := 148) rfl), List.forall_mem_cons.mpr ⟨gx_n1 _ (List.mem_of_getElem? (i := 151) rfl), List.forall_mem_cons.mpr ⟨gx_n1 _ (List.mem_of_getElem? (i := 159) rfl), List.forall_mem_cons.mpr ⟨gx_n1 _ (List.mem_of_getElem? (i := 165) rfl), List.forall_mem_cons.mpr ⟨gx_n3 _ (List.mem_of_getElem? (i := 11) rfl), List.forall_mem_cons.mpr ⟨gx_n3 _ (List.mem_of_getElem? (i := 83) rfl), List.forall_mem_cons.mpr ⟨gx_n3 _ (List.mem_of_getElem? (i := 121) rfl), fun _ h => absurd h List.not_mem_nil⟩⟩⟩⟩⟩⟩⟩⟩⟩⟩⟩⟩⟩⟩⟩⟩⟩⟩⟩⟩⟩⟩⟩⟩⟩⟩⟩⟩⟩
theorem gx_nest_on : ∀ w ∈ gx_nest, w.onTables = true := by decide +kernel
theorem gx_nest_warm {s U : State} (w : Cond) (hw : w ∈ gx_nest) (hW : s.WarmedH U.vm) (h : va_Nw w s) : va_Nw w U := (show ∀ w ∈ gx_nest, va_Nw w s → va_Nw w U from List.forall_mem_cons.mpr ⟨fun h => va_Nw.warmM hW h, List.forall_mem_cons.mpr ⟨fun h => va_Nw.warmF hW h, List.forall_mem_cons.mpr ⟨fun h => va_Nw.warmM hW h, List.forall_mem_cons.mpr ⟨fun h => va_Nw.warmF hW h, List.forall_mem_cons.mpr ⟨fun h => va_Nw.warmF hW h, List.forall_mem_cons.mpr ⟨fun h => va_Nw.warmM hW h, List.forall_mem_cons.mpr ⟨fun h => va_Nw.warmM hW h, List.forall_mem_cons.mpr ⟨fun h => va_Nw.warmM hW h, List.forall_mem_cons.mpr ⟨fun h => va_Nw.warmF hW h, List.forall_mem_cons.mpr ⟨fun h => va_Nw.warmF hW h, List.forall_mem_cons.mpr ⟨fun h => va_Nw.warmF hW h, List.forall_mem_cons.mpr ⟨fun h => va_Nw.warmF hW h, List.forall_mem_cons.mpr ⟨fun h => va_Nw.warmF hW h, List.forall_mem_cons.mpr ⟨fun h => va_Nw.warmF hW h, List.forall_mem_cons.mpr ⟨fun h => va_Nw.warmF hW h, List.forall_mem_cons.mpr ⟨fun h => va_Nw.warmF hW h, List.forall_mem_cons.mpr ⟨fun h => va_Nw.warmF hW h, List.forall_mem_cons.mpr ⟨fun h => va_Nw.warmF hW h, List.forall_mem_cons.mpr ⟨fun h => va_Nw.warmF hW h, List.forall_mem_cons.mpr ⟨fun h => va_Nw.warmF hW h, List.forall_mem_cons.mpr ⟨fun h => va_Nw.warmF hW h, List.forall_mem_cons.mpr ⟨fun h => va_Nw.warmF hW h, List.forall_mem_cons.mpr ⟨fun h => va_Nw.warmM hW h, List.forall_mem_cons.mpr ⟨fun h => va_Nw.warmF hW h, List.forall_mem_cons.mpr ⟨fun h => va_Nw.warmM hW h, List.forall_mem_cons.mpr ⟨fun h => va_Nw.warmF hW h, List.forall_mem_cons.mpr ⟨fun h => va_Nw.warmC hW h, List.forall_mem_cons.mpr ⟨fun h => va_Nw.warmC hW h, List.forall_mem_cons.mpr ⟨fun h => va_Nw.warmC hW h, fun _ h => absurd h List.not_mem_nil⟩⟩⟩⟩⟩⟩⟩⟩⟩⟩⟩⟩⟩⟩⟩⟩⟩⟩⟩⟩⟩⟩⟩⟩⟩⟩⟩⟩⟩) w hw h
theorem gx_nest0 {U : State} (h : ∀ w ∈ gx_nest, va_Nw w U) : va_Nw (Cond.methodLinkNest "KeypadWriter" 9 ⟨"KeypadWriter$ListText", "<init>", "()V"⟩ "KeypadWriter") U := h _ (List.mem_of_getElem? (i := 0) rfl)
theorem gx_nest1 {U : State} (h : ∀ w ∈ gx_nest, va_Nw w U) : va_Nw (Cond.fieldLinkNest "KeypadWriter" 64 "KeypadWriter$ListText" "length" "I" "KeypadWriter") U := h _ (List.mem_of_getElem? (i := 1) rfl)
theorem gx_nest2 {U : State} (h : ∀ w ∈ gx_nest, va_Nw w U) : va_Nw (Cond.methodLinkNest "KeypadWriter" 18 ⟨"KeypadWriter$WordList", "<init>", "()V"⟩ "KeypadWriter") U := h _ (List.mem_of_getElem? (i := 2) rfl)
theorem gx_nest3 {U : State} (h : ∀ w ∈ gx_nest, va_Nw w U) : va_Nw (Cond.fieldLinkNest "KeypadWriter$Candidates" 29 "KeypadWriter$WordList" "size" "I" "KeypadWriter") U := h _ (List.mem_of_getElem? (i := 3) rfl)
theorem gx_nest4 {U : State} (h : ∀ w ∈ gx_nest, va_Nw w U) : va_Nw (Cond.fieldLinkNest "KeypadWriter" 89 "KeypadWriter$WordList" "size" "I" "KeypadWriter") U := h _ (List.mem_of_getElem? (i := 4) rfl)
theorem gx_nest5 {U : State} (h : ∀ w ∈ gx_nest, va_Nw w U) : va_Nw (Cond.methodLinkNest "KeypadWriter" 25 ⟨"KeypadWriter$State", "<init>", "()V"⟩ "KeypadWriter") U := h _ (List.mem_of_getElem? (i := 5) rfl)
theorem gx_nest6 {U : State} (h : ∀ w ∈ gx_nest, va_Nw w U) : va_Nw (Cond.methodLinkNest "KeypadWriter$State" 11 ⟨"KeypadWriter$WordList", "<init>", "()V"⟩ "KeypadWriter") U := h _ (List.mem_of_getElem? (i := 6) rfl)
theorem gx_nest7 {U : State} (h : ∀ w ∈ gx_nest, va_Nw w U) : va_Nw (Cond.methodLinkNest "KeypadWriter$State" 20 ⟨"KeypadWriter$WrittenText", "<init>", "()V"⟩ "KeypadWriter") U := h _ (List.mem_of_getElem? (i := 7) rfl)
theorem gx_nest8 {U : State} (h : ∀ w ∈ gx_nest, va_Nw w U) : va_Nw (Cond.fieldLinkNest "KeypadWriter" 186 "KeypadWriter$WrittenText" "size" "I" "KeypadWriter") U := h _ (List.mem_of_getElem? (i := 8) rfl)
theorem gx_nest9 {U : State} (h : ∀ w ∈ gx_nest, va_Nw w U) : va_Nw (Cond.fieldLinkNest "KeypadWriter$Candidates" 25 "KeypadWriter$State" "list" "LKeypadWriter$WordList;" "KeypadWriter") U := h _ (List.mem_of_getElem? (i := 9) rfl)
theorem gx_nest10 {U : State} (h : ∀ w ∈ gx_nest, va_Nw w U) : va_Nw (Cond.fieldLinkNest "KeypadWriter" 79 "KeypadWriter$State" "list" "LKeypadWriter$WordList;" "KeypadWriter") U := h _ (List.mem_of_getElem? (i := 10) rfl)
theorem gx_nest11 {U : State} (h : ∀ w ∈ gx_nest, va_Nw w U) : va_Nw (Cond.fieldLinkNest "KeypadWriter" 182 "KeypadWriter$State" "text" "LKeypadWriter$WrittenText;" "KeypadWriter") U := h _ (List.mem_of_getElem? (i := 11) rfl)
theorem gx_nest12 {U : State} (h : ∀ w ∈ gx_nest, va_Nw w U) : va_Nw (Cond.fieldLinkNest "KeypadWriter" 268 "KeypadWriter$State" "clock" "I" "KeypadWriter") U := h _ (List.mem_of_getElem? (i := 12) rfl)
theorem gx_nest13 {U : State} (h : ∀ w ∈ gx_nest, va_Nw w U) : va_Nw (Cond.fieldLinkNest "KeypadWriter" 94 "KeypadWriter$State" "ageing" "I" "KeypadWriter") U := h _ (List.mem_of_getElem? (i := 13) rfl)
theorem gx_nest14 {U : State} (h : ∀ w ∈ gx_nest, va_Nw w U) : va_Nw (Cond.fieldLinkNest "KeypadWriter$Candidates" 42 "KeypadWriter$State" "completing" "Z" "KeypadWriter") U := h _ (List.mem_of_getElem? (i := 14) rfl)
theorem gx_nest15 {U : State} (h : ∀ w ∈ gx_nest, va_Nw w U) : va_Nw (Cond.fieldLinkNest "KeypadWriter" 97 "KeypadWriter$State" "completing" "Z" "KeypadWriter") U := h _ (List.mem_of_getElem? (i := 15) rfl)
theorem gx_nest16 {U : State} (h : ∀ w ∈ gx_nest, va_Nw w U) : va_Nw (Cond.fieldLinkNest "KeypadWriter" 165 "KeypadWriter$State" "tapping" "Z" "KeypadWriter") U := h _ (List.mem_of_getElem? (i := 16) rfl)
theorem gx_nest17 {U : State} (h : ∀ w ∈ gx_nest, va_Nw w U) : va_Nw (Cond.fieldLinkNest "KeypadWriter" 138 "KeypadWriter$State" "pending" "I" "KeypadWriter") U := h _ (List.mem_of_getElem? (i := 17) rfl)
theorem gx_nest18 {U : State} (h : ∀ w ∈ gx_nest, va_Nw w U) : va_Nw (Cond.fieldLinkNest "KeypadWriter$Candidates" 46 "KeypadWriter$State" "present" "J" "KeypadWriter") U := h _ (List.mem_of_getElem? (i := 18) rfl)
theorem gx_nest19 {U : State} (h : ∀ w ∈ gx_nest, va_Nw w U) : va_Nw (Cond.fieldLinkNest "KeypadWriter" 161 "KeypadWriter$State" "present" "J" "KeypadWriter") U := h _ (List.mem_of_getElem? (i := 19) rfl)
theorem gx_nest20 {U : State} (h : ∀ w ∈ gx_nest, va_Nw w U) : va_Nw (Cond.fieldLinkNest "KeypadWriter" 86 "KeypadWriter$State" "chosen" "I" "KeypadWriter") U := h _ (List.mem_of_getElem? (i := 20) rfl)
theorem gx_nest21 {U : State} (h : ∀ w ∈ gx_nest, va_Nw w U) : va_Nw (Cond.fieldLinkNest "KeypadWriter" 179 "KeypadWriter$State" "opened" "I" "KeypadWriter") U := h _ (List.mem_of_getElem? (i := 21) rfl)
theorem gx_nest22 {U : State} (h : ∀ w ∈ gx_nest, va_Nw w U) : va_Nw (Cond.methodLinkNest "KeypadWriter$SavedStates" 17 ⟨"KeypadWriter$State", "<init>", "()V"⟩ "KeypadWriter") U := h _ (List.mem_of_getElem? (i := 22) rfl)
theorem gx_nest23 {U : State} (h : ∀ w ∈ gx_nest, va_Nw w U) : va_Nw (Cond.fieldLinkNest "KeypadWriter" 248 "KeypadWriter$SavedStates" "size" "I" "KeypadWriter") U := h _ (List.mem_of_getElem? (i := 23) rfl)
theorem gx_nest24 {U : State} (h : ∀ w ∈ gx_nest, va_Nw w U) : va_Nw (Cond.methodLinkNest "KeypadWriter" 39 ⟨"KeypadWriter$Candidates", "<init>", "()V"⟩ "KeypadWriter") U := h _ (List.mem_of_getElem? (i := 24) rfl)
theorem gx_nest25 {U : State} (h : ∀ w ∈ gx_nest, va_Nw w U) : va_Nw (Cond.fieldLinkNest "KeypadWriter" 171 "KeypadWriter$Candidates" "size" "I" "KeypadWriter") U := h _ (List.mem_of_getElem? (i := 25) rfl)
theorem gx_nest26 {U : State} (h : ∀ w ∈ gx_nest, va_Nw w U) : va_Nw (Cond.castable "java/lang/IllegalArgumentException" "java/lang/IllegalArgumentException") U := h _ (List.mem_of_getElem? (i := 26) rfl)
theorem gx_nest27 {U : State} (h : ∀ w ∈ gx_nest, va_Nw w U) : va_Nw (Cond.castable "java/lang/IllegalStateException" "java/lang/IllegalStateException") U := h _ (List.mem_of_getElem? (i := 27) rfl)
theorem gx_nest28 {U : State} (h : ∀ w ∈ gx_nest, va_Nw w U) : va_Nw (Cond.castable "java/lang/IndexOutOfBoundsException" "java/lang/IndexOutOfBoundsException") U := h _ (List.mem_of_getElem? (i := 28) rfl)
def gx_strs : List (Nat × String) := [(46, "a byte is 0 to 127"), (57, "the list text has 150 bytes"), (92, "the ageing is 1 to 50"), (107, "the list has no such word"), (110, "a word has the values 0 to 4"), (125, "the word has no such letter"), (136, "a key is 2 to 9"), (145, "the present word has 10 places"), (172, "there are no candidates"), (174, "the present word is empty"), (189, "the text has 30 words"), (196, "the text has no such word"), (198, "a word is being written"), (203, "there are the settings 0 to 10"), (209, "the present word has no such place"), (214, "an index is not negative"), (216, "there is no such candidate"), (249, "there is no saved state")]
end
section
/-! THE LAYER OF THIS CLAIM: one list of words for all methods (gx_G), worlds as segments, contracts that name outcome and world outright -/
theorem gx_sub : ∀ w ∈ gx_G, w ∈ lw_tbl := fun w h => (List.mem_filter.mp h).1
theorem gx_ok {w : Cond} (h : w ∈ gx_G) : (w.onTables && w.keeps) = true ∨ ∃ ty, w = .arrayClass ty := good_of_word (List.mem_filter.mp h).2
theorem gx_gg : GoodIn gx_G gx_G := fun w h => ⟨h, gx_ok h⟩
theorem gx_cons {ws : List Cond} {w : Cond} (hw : w ∈ gx_G) (h : GoodIn gx_G ws) : GoodIn gx_G (w :: ws) := fun z hz => (List.mem_cons.mp hz).elim (fun e => by rw [e]; exact ⟨hw, gx_ok hw⟩) (h z)
abbrev gws (y : MethodName) (cc : ByteArray) (n : Nat) (r : Option FieldType) : List Cond := Cond.code y cc n r :: gx_G
theorem gx_gV {own C : String} {idx n : Nat} {y : MethodName} {cc : ByteArray} {r : Option FieldType} (h1 : Cond.methodLink own idx y ∈ gx_G) (h2 : Cond.instanceMethod y ∈ gx_G) (h3 : Cond.selects C y y ∈ gx_G) (h4 : Cond.initialized C ∈ gx_G) (h5 : Cond.code y cc n r ∈ gx_G) : GoodIn gx_G (wsV own idx C y (gws y cc n r)) :=
  gx_cons h1 (gx_cons h2 (gx_cons h3 (gx_cons h4 (gx_cons h5 gx_gg))))
theorem gx_gS {own : String} {idx n : Nat} {y : MethodName} {cc : ByteArray} {r : Option FieldType} (h1 : Cond.methodLink own idx y ∈ gx_G) (h2 : Cond.static y ∈ gx_G) (h4 : Cond.initialized y.cls ∈ gx_G) (h5 : Cond.code y cc n r ∈ gx_G) : GoodIn gx_G (va_wsS own idx y (gws y cc n r)) :=
  gx_cons h1 (gx_cons h2 (gx_cons h4 (gx_cons h5 gx_gg)))
/-- the classes' numbers and slots; the array classes (int, long, boolean, State); where the law began; the two tables of Keys -/
abbrev gEnv : Type := va_G × (ClassId × ClassId × ClassId × ClassId) × (Nat × Nat × Nat)
def gTy (E : gEnv) : List (ClassId × FieldType) := [(E.2.1.1, .int), (E.2.1.2.1, .long), (E.2.1.2.2.1, .boolean), (E.2.1.2.2.2, .object "KeypadWriter$State")]
def gB (E : gEnv) : Nat → Prop := fun q => E.2.2.1 ≤ q
/-- what the tables say, and stays said while the machine only warms up -/
def gK (E : gEnv) (U : State) : Prop := va_K E.1 vwCl (gTy E) U ∧ (∀ w ∈ gx_nest, va_Nw w U) ∧ ∀ q ∈ gx_strs, ∃ a, vk_R RX8 q.1 q.2 a U
theorem gK.moved {E : gEnv} {u U : State} (hv : U.vm = u.vm) (h : gK E u) : gK E U := by
  refine ⟨va_K.moved (by rw [hv]; exact Vm.Alike.refl u.vm) h.1, fun w hw => ?_, fun q hq => ?_⟩
  · exact va_Nw.same (gx_nest_on w hw) hv.symm (h.2.1 w hw)
  · obtain ⟨a, ha⟩ := h.2.2 q hq
    exact ⟨a, vk_R.same hv ha⟩
theorem gK.warm {E : gEnv} {s U : State} (hW : s.WarmedH U.vm) (h : gK E s) : gK E U := by
  refine ⟨va_K.moved hW.alike h.1, fun w hw => gx_nest_warm w hw hW (h.2.1 w hw), fun q hq => ?_⟩
  obtain ⟨a, ha⟩ := h.2.2 q hq
  exact ⟨a, vk_R.warm hW ha⟩
def gkol : Nat → Int32 := fun j => nI ([2, 2, 2, 3, 3, 3, 4, 4, 4, 5, 5, 5, 6, 6, 6, 7, 7, 7, 7, 8, 8, 8, 9, 9, 9, 9].getD j 0)
def gflk : Nat → Int32 := fun j => nI ([0, 3, 6, 9, 12, 15, 19, 22].getD j 0)
/-- statics: what the class's code reads of them, and what a throw carries -/
def gX (E : gEnv) (U : State) (H : Heap) : Prop :=
  (va_Z RX1 "KEY_OF_LETTER" "[I" (.ref E.2.2.2.1) (gB E) U H ∧ va_T .int E.2.2.2.1 26 (fun j => .int (gkol j)) (gB E) U H) ∧
  (va_Z RX1 "FIRST_LETTER_FROM_KEY_2" "[I" (.ref E.2.2.2.2) (gB E) U H ∧ va_T .int E.2.2.2.2 8 (fun j => .int (gflk j)) (gB E) U H) ∧
  (vx_Zq Bundle.tN "UNASSIGNED_STACK" Bundle.steD (gB E) U H ∧ vx_Zq Bundle.tN "SUPPRESSED_SENTINEL" Bundle.listD (gB E) U H)
theorem gX.moved {E : gEnv} {u U : State} {H : Heap} (hvm : u.vm.Alike U.vm) (h : gX E u H) : gX E U H :=
  ⟨⟨h.1.1.moved hvm, h.1.2.moved hvm⟩, ⟨h.2.1.1.moved hvm, h.2.1.2.moved hvm⟩, ⟨vx_Zq.moved hvm h.2.2.1, vx_Zq.moved hvm h.2.2.2⟩⟩
theorem gX.kept {E : gEnv} {U : State} {H H1 : Heap} (h : gX E U H) (hq : ∀ a : Nat, a < H.size → ¬ gB E a → H1[a]? = H[a]?) : gX E U H1 :=
  ⟨⟨h.1.1.kept hq, h.1.2.kept hq⟩, ⟨h.2.1.1.kept hq, h.2.1.2.kept hq⟩, ⟨vx_Zq.kept h.2.2.1 hq, vx_Zq.kept h.2.2.2 hq⟩⟩
/-! ===== segments ===== -/
/-- the heap holds the segments -/
def gP (E : gEnv) (S : List va_W) (H : Heap) : Prop := ∀ sg ∈ S, va_P E.1 vwCl sg H
/-- a segment's addresses -/
def gas (sg : va_W) : List Nat := sg.map Prod.fst
/-- the addresses of all segments are apart and in A -/
def gN (A : Nat → Prop) (as : List (List Nat)) : Prop := as.flatten.Nodup ∧ ∀ q ∈ as.flatten, A q
def gAd (S : List va_W) : Nat → Prop := fun q => ∃ sg ∈ S, q ∈ gas sg
def gS (E : gEnv) (A : Nat → Prop) (H0 : Heap) (S : List va_W) (H : Heap) (locs : List Loc) : Prop := gP E S H ∧ gN A (S.map gas) ∧ va_S A H0 H locs
theorem gP.seg {E : gEnv} {S : List va_W} {H : Heap} (h : gP E S H) (k : Nat) {sg : va_W} (hk : S[k]? = some sg) : va_P E.1 vwCl sg H := h sg (List.mem_of_getElem? hk)
theorem gP.sub {E : gEnv} {S Sc : List va_W} {H : Heap} (h : gP E S H) (is : List Nat) (hs : is.filterMap (fun i => S[i]?) = Sc) : gP E Sc H := by
  subst hs
  intro sg hsg
  obtain ⟨i, -, hi⟩ := List.mem_filterMap.mp hsg
  exact h.seg i hi
theorem gAd_iff {S : List va_W} {q : Nat} : gAd S q ↔ q ∈ (S.map gas).flatten := by
  constructor
  · rintro ⟨sg, h1, h2⟩
    exact List.mem_flatten.mpr ⟨gas sg, List.mem_map.mpr ⟨sg, h1, rfl⟩, h2⟩
  · intro h
    obtain ⟨a, h1, h2⟩ := List.mem_flatten.mp h
    obtain ⟨sg, h3, rfl⟩ := List.mem_map.mp h1
    exact ⟨sg, h3, h2⟩
/-- a cell of a segment that is put in another's stead: same address -/
theorem gas_set {sg : va_W} {j a : Nat} {e0 e : va_E} (h : sg[j]? = some (a, e0)) : gas (sg.set j (a, e)) = gas sg := by
  apply List.ext_getElem?
  intro i
  simp only [gas, List.getElem?_map, List.getElem?_set]
  by_cases hij : j = i
  · subst hij
    have hl := (List.getElem?_eq_some_iff.mp h).1
    rw [if_pos rfl, if_pos hl, h]
    rfl
  · rw [if_neg hij]
theorem gmap_set {S : List va_W} {k : Nat} {sg sg' : va_W} (h : S[k]? = some sg) (hg : gas sg' = gas sg) : (S.set k sg').map gas = S.map gas := by
  apply List.ext_getElem?
  intro i
  simp only [List.getElem?_map, List.getElem?_set]
  by_cases hki : k = i
  · subst hki
    have hl := (List.getElem?_eq_some_iff.mp h).1
    rw [if_pos rfl, if_pos hl, h]
    exact congrArg some hg
  · rw [if_neg hki]
/-- two segments at two places have no address in common -/
theorem gN_apart {A : Nat → Prop} : ∀ {as : List (List Nat)}, gN A as → ∀ {k k' : Nat} {x y : List Nat}, as[k]? = some x → as[k']? = some y → k ≠ k' → ∀ q ∈ x, q ∉ y
  | [], _, k, _, _, _, h, _, _ => by simp at h
  | z :: as, h, k, k', x, y, hx, hy, hne => by
    have h1 : (z ++ as.flatten).Nodup := h.1
    obtain ⟨n1, n2, n3⟩ := List.nodup_append.mp h1
    have ht : gN A as := ⟨n2, fun q hq => h.2 q (by simp only [List.flatten_cons]; exact List.mem_append_right _ hq)⟩
    cases k with
    | zero =>
      cases k' with
      | zero => exact absurd rfl hne
      | succ k' =>
        simp only [List.getElem?_cons_zero, Option.some.injEq] at hx
        simp only [List.getElem?_cons_succ] at hy
        subst hx
        intro q hq hq2
        exact n3 q hq q (List.mem_flatten.mpr ⟨y, List.mem_of_getElem? hy, hq2⟩) rfl
    | succ k =>
      simp only [List.getElem?_cons_succ] at hx
      cases k' with
      | zero =>
        simp only [List.getElem?_cons_zero, Option.some.injEq] at hy
        subst hy
        intro q hq hq2
        exact n3 q hq2 q (List.mem_flatten.mpr ⟨x, List.mem_of_getElem? hx, hq⟩) rfl
      | succ k' =>
        simp only [List.getElem?_cons_succ] at hy
        exact gN_apart ht hx hy (fun e => hne (by rw [e]))
theorem gN_seg {A : Nat → Prop} : ∀ {as : List (List Nat)}, gN A as → ∀ {k : Nat} {x : List Nat}, as[k]? = some x → x.Nodup
  | [], _, k, _, h => by simp at h
  | z :: as, h, k, x, hx => by
    have h1 : (z ++ as.flatten).Nodup := h.1
    obtain ⟨n1, n2, n3⟩ := List.nodup_append.mp h1
    have ht : gN A as := ⟨n2, fun q hq => h.2 q (by simp only [List.flatten_cons]; exact List.mem_append_right _ hq)⟩
    cases k with
    | zero => simp only [List.getElem?_cons_zero, Option.some.injEq] at hx; rw [← hx]; exact n1
    | succ k => simp only [List.getElem?_cons_succ] at hx; exact gN_seg ht hx
/-- one segment's addresses, in the kit's words -/
theorem gN_D {A : Nat → Prop} {S : List va_W} (h : gN A (S.map gas)) {k : Nat} {sg : va_W} (hk : S[k]? = some sg) : va_D A sg := by
  have hk2 : (S.map gas)[k]? = some (gas sg) := by rw [List.getElem?_map, hk]; rfl
  have hn := gN_seg h hk2
  refine ⟨fun i j p q hi hj hpq => ?_, fun i q hq => h.2 _ (List.mem_flatten.mpr ⟨gas sg, List.mem_of_getElem? hk2, List.mem_map.mpr ⟨q, List.mem_of_getElem? hq, rfl⟩⟩)⟩
  have hi2 : (gas sg)[i]? = some p.1 := by rw [gas, List.getElem?_map, hi]; rfl
  have hj2 : (gas sg)[j]? = some p.1 := by rw [gas, List.getElem?_map, hj, hpq]; rfl
  have hil := (List.getElem?_eq_some_iff.mp hi2).1
  exact (List.getElem?_inj hil hn).mp (hi2.trans hj2.symm)
/-- a write into one cell: the world behind it -/
theorem gP.put {E : gEnv} {A : Nat → Prop} {S : List va_W} {H H1 : Heap} (hP : gP E S H) (hN : gN A (S.map gas)) {k j : Nat} {sg sg' : va_W} (hk : S[k]? = some sg) (h1 : va_P E.1 vwCl sg' H1) (hq : ∀ q : Nat, q < H.size → q ∉ gas sg → H1[q]? = H[q]?) : gP E (S.set k sg') H1 := by
  intro x hx
  obtain ⟨i, hi⟩ := List.getElem?_of_mem hx
  rw [List.getElem?_set] at hi
  by_cases hki : k = i
  · subst hki
    have hl := (List.getElem?_eq_some_iff.mp hk).1
    simp only [if_true, hl] at hi
    cases hi
    exact h1
  · rw [if_neg hki] at hi
    refine (hP.seg i hi).kept fun p q hp => hq q.1 ((hP.seg i hi) p q hp).lt ?_
    have hi2 : (S.map gas)[i]? = some (gas x) := by rw [List.getElem?_map, hi]; rfl
    have hk2 : (S.map gas)[k]? = some (gas sg) := by rw [List.getElem?_map, hk]; rfl
    exact gN_apart hN hi2 hk2 (fun e => hki e.symm) q.1 (List.mem_map.mpr ⟨q, List.mem_of_getElem? hp, rfl⟩)
/-- segments put in the places of others -/
def gset (S : List va_W) : List Nat → List va_W → List va_W
  | i :: is, sg :: sgs => gset (S.set i sg) is sgs
  | _, _ => S
theorem gset_map : ∀ (is : List Nat) (Sc Sc' S : List va_W), is.map (fun i => S[i]?) = Sc.map some → va_nd is = true → Sc'.map gas = Sc.map gas → (gset S is Sc').map gas = S.map gas
  | [], _, Sc', _, _, _, _ => by cases Sc' <;> rfl
  | i :: is, [], _, _, h, _, _ => by simp at h
  | i :: is, sg :: Sc, [], _, _, _, h => by simp at h
  | i :: is, sg :: Sc, sg' :: Sc', S, h, hn, hg => by
    simp only [List.map_cons, List.cons.injEq] at h hg
    simp only [va_nd, Bool.and_eq_true, decide_eq_true_eq] at hn
    have h2 : (S.set i sg').map gas = S.map gas := gmap_set h.1 hg.1
    show (gset (S.set i sg') is Sc').map gas = _
    rw [gset_map is Sc Sc' (S.set i sg') ?_ hn.2 hg.2, h2]
    rw [← h.2]
    apply List.map_congr_left
    intro x hx
    rw [List.getElem?_set_ne (fun e => hn.1 (by rw [e]; exact hx))]
theorem gset_mem : ∀ (is : List Nat) (Sc' S : List va_W) (x : va_W), x ∈ gset S is Sc' → x ∈ Sc' ∨ ∃ i, S[i]? = some x ∧ (i ∉ is ∨ Sc'.length < is.length)
  | [], Sc', S, x, h => by
    obtain ⟨i, hi⟩ := List.getElem?_of_mem (show x ∈ S by simpa [gset] using h)
    exact Or.inr ⟨i, hi, Or.inl (by simp)⟩
  | i :: is, [], S, x, h => by
    obtain ⟨j, hj⟩ := List.getElem?_of_mem (show x ∈ S by simpa [gset] using h)
    exact Or.inr ⟨j, hj, Or.inr (by simp)⟩
  | i :: is, sg :: sgs, S, x, h => by
    rcases gset_mem is sgs (S.set i sg) x h with h1 | ⟨j, hj, h2⟩
    · exact Or.inl (List.mem_cons_of_mem _ h1)
    · rw [List.getElem?_set] at hj
      by_cases hij : i = j
      · subst hij
        rw [if_pos rfl] at hj
        split at hj
        · cases hj; exact Or.inl List.mem_cons_self
        · cases hj
      · rw [if_neg hij] at hj
        refine Or.inr ⟨j, hj, ?_⟩
        rcases h2 with h2 | h2
        · exact Or.inl (by simp only [List.mem_cons, not_or]; exact ⟨fun e => hij e.symm, h2⟩)
        · exact Or.inr (by simpa using h2)
/-- behind a call: the callee's segments as it left them, the others as they were -/
theorem gP.call {E : gEnv} {A : Nat → Prop} {S Sc Sc' : List va_W} {H H1 : Heap} (hP : gP E S H) (hN : gN A (S.map gas)) (is : List Nat) (hs : is.map (fun i => S[i]?) = Sc.map some) (hg : Sc'.map gas = Sc.map gas) (h1 : gP E Sc' H1) (hq : ∀ q : Nat, q < H.size → ¬ gAd Sc q → H1[q]? = H[q]?) : gP E (gset S is Sc') H1 := by
  intro x hx
  have hlen : Sc'.length = is.length := by
    have e1 : Sc'.length = Sc.length := by rw [← List.length_map (f := gas) (as := Sc'), hg, List.length_map]
    have e2 := congrArg List.length hs
    simp only [List.length_map] at e2
    omega
  rcases gset_mem is Sc' S x hx with h | ⟨i, hi, h⟩
  · exact h1 x h
  · rcases h with h | h
    · refine (hP.seg i hi).kept fun p q hp => hq q.1 ((hP.seg i hi) p q hp).lt ?_
      rintro ⟨sg, hsg, hqs⟩
      obtain ⟨t, ht⟩ := List.getElem?_of_mem hsg
      have h3 : (is.map (fun i => S[i]?))[t]? = some (some sg) := by rw [hs, List.getElem?_map, ht]; rfl
      rw [List.getElem?_map] at h3
      cases hit : is[t]? with
      | none => rw [hit] at h3; cases h3
      | some k =>
        rw [hit] at h3
        have hk : S[k]? = some sg := by simpa using h3
        have hi2 : (S.map gas)[i]? = some (gas x) := by rw [List.getElem?_map, hi]; rfl
        have hk2 : (S.map gas)[k]? = some (gas sg) := by rw [List.getElem?_map, hk]; rfl
        exact gN_apart hN hi2 hk2 (fun e => h (by rw [e]; exact List.mem_of_getElem? hit)) q.1 (List.mem_map.mpr ⟨q, List.mem_of_getElem? hp, rfl⟩) hqs
    · omega
theorem gN.sub {A : Nat → Prop} {S Sc : List va_W} (hN : gN A (S.map gas)) (is : List Nat) (hs : is.map (fun i => S[i]?) = Sc.map some) (hn : va_nd is = true) : gN A (Sc.map gas) := by
  have key : ∀ (is : List Nat) (Sc : List va_W), is.map (fun i => S[i]?) = Sc.map some → va_nd is = true → gN A (Sc.map gas) ∧ ∀ q ∈ (Sc.map gas).flatten, ∃ i ∈ is, ∃ sg, S[i]? = some sg ∧ q ∈ gas sg := by
    intro is
    induction is with
    | nil =>
      intro Sc h _
      cases Sc with
      | nil => exact ⟨⟨by simp, by simp⟩, by simp⟩
      | cons a b => simp at h
    | cons i is ih =>
      intro Sc h hn
      cases Sc with
      | nil => simp at h
      | cons sg Sc =>
        simp only [List.map_cons, List.cons.injEq] at h
        simp only [va_nd, Bool.and_eq_true, decide_eq_true_eq] at hn
        obtain ⟨h1, h2⟩ := ih Sc h.2 hn.2
        have hk2 : (S.map gas)[i]? = some (gas sg) := by rw [List.getElem?_map, h.1]; rfl
        refine ⟨⟨?_, ?_⟩, ?_⟩
        · simp only [List.map_cons, List.flatten_cons]
          refine List.nodup_append.mpr ⟨gN_seg hN hk2, h1.1, ?_⟩
          intro a ha b hb hab
          obtain ⟨i', hi', sg', hs', hq'⟩ := h2 b hb
          have hk3 : (S.map gas)[i']? = some (gas sg') := by rw [List.getElem?_map, hs']; rfl
          exact gN_apart hN hk2 hk3 (fun e => hn.1 (by rw [e]; exact hi')) a ha (by rw [hab]; exact hq')
        · intro q hq
          simp only [List.map_cons, List.flatten_cons] at hq
          rcases List.mem_append.mp hq with hq | hq
          · exact hN.2 q (List.mem_flatten.mpr ⟨_, List.mem_of_getElem? hk2, hq⟩)
          · exact h1.2 q hq
        · intro q hq
          simp only [List.map_cons, List.flatten_cons] at hq
          rcases List.mem_append.mp hq with hq | hq
          · exact ⟨i, List.mem_cons_self, sg, h.1, hq⟩
          · obtain ⟨i', hi', x⟩ := h2 q hq
            exact ⟨i', List.mem_cons_of_mem _ hi', x⟩
  exact (key is Sc hs hn).1
end
section
/-! ===== pure side: reads, writes, guards, loops ===== -/
def rd {α : Type} (f : Nat → α) (n : Nat) (i : Int32) : Option α := if i < 0 ∨ n ≤ i.toNatClampNeg then none else some (f i.toNatClampNeg)
def wr (f : Nat → Int32) (n : Nat) (i : Int32) (x : Int32) : Option (Nat → Int32) := if i < 0 ∨ n ≤ i.toNatClampNeg then none else some (upd f i.toNatClampNeg x)
def wrL (f : Nat → Int64) (n : Nat) (i : Int32) (x : Int64) : Option (Nat → Int64) := if i < 0 ∨ n ≤ i.toNatClampNeg then none else some (vp_updL f i.toNatClampNeg x)
/-- a boolean is 0 or 1 -/
def bz (x : Int32) : Option Unit := if x = 0 ∨ x = 1 then some () else none
def nz (x : Int32) : Option Unit := if x = 0 then none else some ()
/-- no NaN -/
def nn (x : UInt64) : Option Unit := if x &&& 0x7fffffffffffffff ≤ 0x7ff0000000000000 then some () else none
theorem nn_ok {x : UInt64} {u : Unit} (h : nn x = some u) : vf_n64 x := by
  unfold nn at h
  split at h
  · assumption
  · cases h
def lp {σ ρ : Type} (b : σ → Option (σ ⊕ ρ)) : Nat → σ → Option ρ
  | 0, _ => none
  | n + 1, s => match b s with
    | none => none
    | some (.inl s') => lp b n s'
    | some (.inr r) => some r
theorem rd_in {α : Type} {f : Nat → α} {n : Nat} {i : Int32} {x : α} (h : rd f n i = some x) : vp_in i n ∧ f i.toNatClampNeg = x := by
  unfold rd at h
  split at h
  · cases h
  · rename_i h1
    exact ⟨h1, Option.some.inj h⟩
theorem wr_in {f g : Nat → Int32} {n : Nat} {i x : Int32} (h : wr f n i x = some g) : vp_in i n ∧ upd f i.toNatClampNeg x = g := by
  unfold wr at h
  split at h
  · cases h
  · rename_i h1
    exact ⟨h1, Option.some.inj h⟩
theorem wrL_in {f g : Nat → Int64} {n : Nat} {i : Int32} {x : Int64} (h : wrL f n i x = some g) : vp_in i n ∧ vp_updL f i.toNatClampNeg x = g := by
  unfold wrL at h
  split at h
  · cases h
  · rename_i h1
    exact ⟨h1, Option.some.inj h⟩
theorem bz_or {x : Int32} {u : Unit} (h : bz x = some u) : x = 0 ∨ x = 1 := by
  unfold bz at h
  split at h
  · assumption
  · cases h
theorem bz_nar {x : Int32} {u : Unit} (h : bz x = some u) : narrow .boolean (.int x) = .int x := by
  rcases bz_or h with rfl | rfl <;> rfl
theorem bz_fit {x : Int32} {u : Unit} (h : bz x = some u) : fits .boolean (.int x) = true := by
  rcases bz_or h with rfl | rfl <;> rfl
theorem bz_vn {x : Int32} {u : Unit} (h : bz x = some u) : vp_nar .boolean x = x := by
  rcases bz_or h with rfl | rfl <;> rfl
theorem nz_ne {x : Int32} {u : Unit} (h : nz x = some u) : ¬ x = 0 := by
  unfold nz at h
  split at h
  · cases h
  · assumption
theorem g_bnd {α β : Type} {x : Option α} {f : α → Option β} {o : β} (h : x.bind f = some o) : ∃ a, x = some a ∧ f a = some o := by
  cases x with
  | none => cases h
  | some a => exact ⟨a, rfl, h⟩
theorem g_it {α : Type} {c : Prop} {d : Decidable c} {a b : α} {z : α} (hc : c) (h : @ite α c d a b = z) : a = z := (if_pos hc).symm.trans h
theorem g_if {α : Type} {c : Prop} {d : Decidable c} {a b : α} {z : α} (hc : ¬ c) (h : @ite α c d a b = z) : b = z := (if_neg hc).symm.trans h
theorem lp_rule {σ ρ : Type} {b : σ → Option (σ ⊕ ρ)} {x : ρ} (Wh : σ → Prop) (step : ∀ s y, b s = some y → (∀ s', y = .inl s' → Wh s') → (∀ r, y = .inr r → r = x) → Wh s) : ∀ (n : Nat) (s : σ), lp b n s = some x → Wh s := by
  intro n
  induction n with
  | zero => intro s h; cases h
  | succ n ih =>
    intro s h
    cases hb : b s with
    | none => simp only [lp, hb] at h; cases h
    | some y =>
      cases y with
      | inl s' =>
        simp only [lp, hb] at h
        exact step s _ hb (fun s'' e => by cases e; exact ih _ h) (fun r e => by cases e)
      | inr r =>
        simp only [lp, hb] at h
        exact step s _ hb (fun s'' e => by cases e) (fun r' e => by cases e; exact Option.some.inj h)
/-! ===== segments, flat ===== -/
theorem gP_flat {E : gEnv} {S : List va_W} {H : Heap} : gP E S H ↔ va_P E.1 vwCl S.flatten H := by
  constructor
  · intro h k q hk
    obtain ⟨sg, h1, h2⟩ := List.mem_flatten.mp (List.mem_of_getElem? hk)
    obtain ⟨j, hj⟩ := List.getElem?_of_mem h2
    exact h sg h1 j q hj
  · intro h sg hsg j q hj
    obtain ⟨k, hk⟩ := List.getElem?_of_mem (List.mem_flatten.mpr ⟨sg, hsg, List.mem_of_getElem? hj⟩)
    exact h k q hk
theorem gN_flat {A : Nat → Prop} {S : List va_W} (h : gN A (S.map gas)) : va_D A S.flatten := by
  have e : (S.map gas).flatten = S.flatten.map Prod.fst := by
    simp only [gas, List.map_flatten]
    rfl
  rw [gN, e] at h
  refine ⟨fun i j p q hi hj hpq => ?_, fun i q hq => h.2 _ (List.mem_map.mpr ⟨q, List.mem_of_getElem? hq, rfl⟩)⟩
  have hi2 : (S.flatten.map Prod.fst)[i]? = some p.1 := by rw [List.getElem?_map, hi]; rfl
  have hj2 : (S.flatten.map Prod.fst)[j]? = some p.1 := by rw [List.getElem?_map, hj, hpq]; rfl
  exact (List.getElem?_inj (List.getElem?_eq_some_iff.mp hi2).1 h.1).mp (hi2.trans hj2.symm)
def goff (S : List va_W) (k j : Nat) : Nat := (S.take k).flatten.length + j
theorem gflat {S : List va_W} {k j : Nat} {sg : va_W} {x : Nat × va_E} (hk : S[k]? = some sg) (hj : sg[j]? = some x) : S.flatten[goff S k j]? = some x ∧ ∀ y, (S.set k (sg.set j y)).flatten = S.flatten.set (goff S k j) y := by
  have hl := (List.getElem?_eq_some_iff.mp hk).1
  have hjl := (List.getElem?_eq_some_iff.mp hj).1
  have e0 : S = S.take k ++ sg :: S.drop (k + 1) := by
    have e1 : S[k] = sg := (List.getElem?_eq_some_iff.mp hk).2
    rw [← e1, List.getElem_cons_drop, List.take_append_drop]
  have e2 : S.flatten = (S.take k).flatten ++ (sg ++ (S.drop (k + 1)).flatten) := by
    conv => lhs; rw [e0]
    simp
  constructor
  · rw [e2, goff, List.getElem?_append_right (Nat.le_add_right _ _), Nat.add_sub_cancel_left, List.getElem?_append_left hjl]
    exact hj
  · intro y
    have e3 : S.set k (sg.set j y) = S.take k ++ sg.set j y :: S.drop (k + 1) := by
      apply List.ext_getElem?
      intro i
      rw [List.getElem?_set]
      by_cases hki : k = i
      · subst hki
        simp [hl, List.getElem?_append_right, Nat.le_of_lt hl]
      · rw [if_neg hki]
        conv => lhs; rw [e0]
        rcases Nat.lt_or_gt_of_ne hki with h | h
        · rw [List.getElem?_append_right (by simp; omega), List.getElem?_append_right (by simp; omega)]
          have : i - (List.take k S).length ≠ 0 := by simp; omega
          obtain ⟨t, ht⟩ := Nat.exists_eq_succ_of_ne_zero this
          rw [ht]
          simp
        · rw [List.getElem?_append_left (by simp; omega), List.getElem?_append_left (by simp; omega)]
    rw [e3, e2, goff]
    simp only [List.flatten_append, List.flatten_cons]
    rw [List.set_append_right _ _ (Nat.le_add_right _ _), Nat.add_sub_cancel_left, List.set_append_left _ _ hjl]
theorem gS.wr {E : gEnv} {A : Nat → Prop} {H0 H H1 : Heap} {S : List va_W} {locs locs1 : List Loc} (hG : gS E A H0 S H locs) {k j a : Nat} {sg : va_W} {e0 e : va_E} (hk : S[k]? = some sg) (hj : sg[j]? = some (a, e0)) (h1 : va_P E.1 vwCl (S.flatten.set (goff S k j) (a, e)) H1) (h2 : va_S A H0 H1 locs1) : gS E A H0 (S.set k (sg.set j (a, e))) H1 locs1 :=
  ⟨gP_flat.mpr (by rw [(gflat hk hj).2]; exact h1), by rw [gmap_set hk (gas_set hj)]; exact hG.2.1, h2⟩
theorem gS.X {E : gEnv} {A : Nat → Prop} {s : State} {S : List va_W} {H : Heap} {locs : List Loc} (hX : gX E s s.heap) (hAB : ∀ q, A q → gB E q) (hG : gS E A s.heap S H locs) : gX E s H := hX.kept fun a h1 h2 => hG.2.2.2.1 a h1 (fun h => h2 (hAB a h))
/-! ===== contracts ===== -/
def gpre (E : gEnv) (As : List Value) (S : List va_W) : Array Value → State → Prop := va_Pc As (fun U => gK E U ∧ gX E U U.heap ∧ gP E S U.heap)
def gqR (v : Option Value) : Array Value → State → Outcome → State → Prop := fun _ st o t => o = .returned v ∧ t.heap = st.heap
/-- a method that only reads: from the world S, with the arguments As, it returns v, and the heap is the same -/
def gR (l : Launch) (y : MethodName) (cc : ByteArray) (nL : Nat) (ret : Option FieldType) (rm : Room) (E : gEnv) (As : List Value) (S : List va_W) (v : Option Value) : Prop := Met l y (gws y cc nL ret) rm (gpre E As S) (gqR v) 0 0 (fun _ => False)
def gpreM (E : gEnv) (As : List Value) (S : List va_W) : Array Value → State → Prop := va_Pc As (fun U => gK E U ∧ gX E U U.heap ∧ gP E S U.heap ∧ gN (gB E) (S.map gas))
def gqM (E : gEnv) (v : Option Value) (S S' : List va_W) : Array Value → State → Outcome → State → Prop := fun _ st o t => (o = .returned v ∧ gP E S' t.heap) ∧ va_F (gAd S) st t
/-- a method that writes: from the world S, with the arguments As, it returns v, the world is S' then, at the same addresses, and nothing else has changed -/
def gM (l : Launch) (y : MethodName) (cc : ByteArray) (nL : Nat) (ret : Option FieldType) (rm : Room) (E : gEnv) (As : List Value) (S : List va_W) (v : Option Value) (S' : List va_W) : Prop := S'.map gas = S.map gas ∧ Met l y (gws y cc nL ret) rm (gpreM E As S) (gqM E v S S') 0 0 (gAd S)
theorem gpre_blind {E : gEnv} {As : List Value} {S : List va_W} : FrameBlind (gpre E As S) := fun a U g mk h => ⟨h.1, gK.moved (u := U) (U := U.calling g mk a) rfl h.2.1, gX.moved (u := U) (U := U.calling g mk a) (Vm.Alike.refl U.vm) h.2.2.1, h.2.2.2⟩
theorem gpreM_blind {E : gEnv} {As : List Value} {S : List va_W} : FrameBlind (gpreM E As S) := fun a U g mk h => ⟨h.1, gK.moved (u := U) (U := U.calling g mk a) rfl h.2.1, gX.moved (u := U) (U := U.calling g mk a) (Vm.Alike.refl U.vm) h.2.2.1, h.2.2.2⟩
abbrev gF (p : Program) (m : MethodId) (c : Code) (cc : ByteArray) (nL : Nat) (s : State) (args : Array Value) (own : String) : Prop := CallFix p m c cc nL s args gx_G own
theorem gR.of {l : Launch} {y : MethodName} {cc : ByteArray} {nL : Nat} {ret : Option FieldType} {rm : Room} {E : gEnv} {As : List Value} {S : List va_W} {v : Option Value} (hy : plainName y.cls = true) (hn : (lg_sl As).length ≤ nL)
    (body : ∀ (p : Program) (e : Env) (s : State) (m : MethodId) (below : List Frame) (meth : Method) (c : Code), gF p m c cc nL s As.toArray y.cls → meth.sig.returnType = ret → meth.locks = false → gK E s → gX E s s.heap → gP E S s.heap → ∀ ls : Array Slot, lv_has ls nL (lv_args 0 As) →
      W p l e rm s m As.toArray below meth c s.heap [] 0 0 (MQ below (gqR v) As.toArray s 0 0 (fun _ => False)) (F0 m 0 ls [])) : gR l y cc nL ret rm E As S v := by
  refine Met.ofW (cc := cc) (maxL := nL) (ret := ret) hy rfl ?_
  intro p e s m args below meth c s₁ B hml hv
  obtain ⟨rfl, hK, hX, hP⟩ := hv
  have hts := atoms_spec (ws := gws y cc nL ret) B.pre
  have hown : s.vm.findClass y.cls = some m.cls := findClass_of_methodNamed B.named
  have hl := lv_entry As (n := nL) hn
  rw [lg_entry_eq]
  exact body p e s m below meth c ⟨B.exec, B.bytes, hml, hown, fun w h => hts w (List.mem_cons_of_mem _ h)⟩ B.returns B.notSynchronized hK hX hP _ hl
theorem gM.of {l : Launch} {y : MethodName} {cc : ByteArray} {nL : Nat} {ret : Option FieldType} {rm : Room} {E : gEnv} {As : List Value} {S S' : List va_W} {v : Option Value} (hy : plainName y.cls = true) (hn : (lg_sl As).length ≤ nL) (hg : S'.map gas = S.map gas)
    (body : ∀ (p : Program) (e : Env) (s : State) (m : MethodId) (below : List Frame) (meth : Method) (c : Code), gF p m c cc nL s As.toArray y.cls → meth.sig.returnType = ret → meth.locks = false → gK E s → gX E s s.heap → (∀ q, gAd S q → gB E q) → gS E (gAd S) s.heap S s.heap [] → ∀ ls : Array Slot, lv_has ls nL (lv_args 0 As) →
      W p l e rm s m As.toArray below meth c s.heap [] 0 0 (MQ below (gqM E v S S') As.toArray s 0 0 (gAd S)) (F0 m 0 ls [])) : gM l y cc nL ret rm E As S v S' := by
  refine ⟨hg, Met.ofW (cc := cc) (maxL := nL) (ret := ret) hy rfl ?_⟩
  intro p e s m args below meth c s₁ B hml hv
  obtain ⟨rfl, hK, hX, hP, hN⟩ := hv
  have hts := atoms_spec (ws := gws y cc nL ret) B.pre
  have hown : s.vm.findClass y.cls = some m.cls := findClass_of_methodNamed B.named
  have hl := lv_entry As (n := nL) hn
  rw [lg_entry_eq]
  exact body p e s m below meth c ⟨B.exec, B.bytes, hml, hown, fun w h => hts w (List.mem_cons_of_mem _ h)⟩ B.returns B.notSynchronized hK hX (fun q h => hN.2 q (gAd_iff.mp h)) ⟨hP, ⟨hN.1, fun q h => gAd_iff.mpr h⟩, va_S.rf⟩ _ hl
/-- a field: where it lies, and that this class's file names it -/
def gFld (own : String) (index ci i : Nat) : Prop := ∃ (C : String) (T : u_T) (N : Nat), vwCl[ci]? = some (C, T, N) ∧ i < N ∧ (∀ w ∈ u_ws C T N, w ∈ gx_G) ∧ (Cond.fieldLink own index (T i).1 (T i).2.1 (T i).2.2.1 ∈ gx_G ∨ ∃ host, Cond.fieldLinkNest own index (T i).1 (T i).2.1 (T i).2.2.1 host ∈ gx_nest)
def gPut (own : String) (index ci i : Nat) (ty : FieldType) : Prop := ∃ (C : String) (T : u_T) (N : Nat) (tf : Nat → FieldType), vwCl[ci]? = some (C, T, N) ∧ i < N ∧ (∀ w ∈ u_ws C T N, w ∈ gx_G) ∧ (∀ k, k < N → parseFieldDescriptor (T k).2.2.1 = some (tf k)) ∧ (∀ a, a < N → ∀ b, b < N → a ≠ b → (T a).2.1 ≠ (T b).2.1) ∧ (T i).2.2.2 = false ∧ parseFieldDescriptor (T i).2.2.1 = some ty ∧ (Cond.fieldLink own index (T i).1 (T i).2.1 (T i).2.2.1 ∈ gx_G ∨ ∃ host, Cond.fieldLinkNest own index (T i).1 (T i).2.1 (T i).2.2.1 host ∈ gx_nest)
section GROWS
variable {p : Program} {l : Launch} {e : Env} {R : Room} {s : State} {m : MethodId} {args : Array Value} {below : List Frame} {meth : Method} {c : Code} {H : Heap} {locs : List Loc} {cells slots : Nat} {Q : State → Prop}
variable {cc : ByteArray} {nL pc : Nat} {ls : Array Slot} {rest : List Value} {own : String} {E : gEnv} {S : List va_W} {A : Nat → Prop} {H0 : Heap}
theorem g_get (F : gF p m c cc nL s args own) (hK : gK E s) (hP : gP E S H) (k j i : Nat) {sg : va_W} {fs : List Value} {a ci index : Nat} {v : Value} (hw : gFld own index ci i) (hk : S[k]? = some sg) (hj : sg[j]? = some (a, .inr (ci, fs))) (hv : fs[i]? = some v) (hdg : decode cc pc = .ok (.getfield index, 3))
    (kk : W p l e R s m args below meth c H locs cells slots Q (F0 m (pc + 3) ls (v :: rest))) : W p l e R s m args below meth c H locs cells slots Q (F0 m pc ls (.ref a :: rest)) := by
  obtain ⟨C, T, N, h1, h2, h3, h4 | ⟨host, h4⟩⟩ := hw
  · exact va_get F.1 F.2.1 F.2.2.2.2 h3 F.2.2.2.1 hK.1 (hP.seg k hk) j hj h1 i h2 (F.2.2.2.2 _ h4) (fun _ h => h) hv hdg kk
  · exact va_getN F.1 F.2.1 F.2.2.2.2 h3 F.2.2.2.1 hK.1 (hP.seg k hk) j hj h1 i h2 (va_Nw.use rfl (hK.2.1 _ h4)) (fun _ h => h) hv hdg kk
theorem g_put (F : gF p m c cc nL s args own) (hK : gK E s) (hG : gS E A H0 S H locs) (k j i : Nat) {sg : va_W} {fs : List Value} {a ci index : Nat} {v : Value} {ty : FieldType} (hw : gPut own index ci i ty) (hk : S[k]? = some sg) (hj : sg[j]? = some (a, .inr (ci, fs))) (hi : i < fs.length) (hn : narrow ty v = v) (hf : fits ty v = true) (hdg : decode cc pc = .ok (.putfield index, 3))
    (kk : ∀ (H1 : Heap) (locs1 : List Loc), gS E A H0 (S.set k (sg.set j (a, .inr (ci, fs.set i v)))) H1 locs1 → W p l e R s m args below meth c H1 locs1 cells slots Q (F0 m (pc + 3) ls rest)) : W p l e R s m args below meth c H locs cells slots Q (F0 m pc ls (v :: .ref a :: rest)) := by
  obtain ⟨C, T, N, tf, h1, h2, h3, h5, h6, h7, h8, h4 | ⟨host, h4⟩⟩ := hw
  · exact va_put F.1 F.2.1 F.2.2.2.2 h3 tf h5 h6 F.2.2.2.1 hK.1 (gP_flat.mp hG.1) (gN_flat hG.2.1) hG.2.2 (goff S k j) (gflat hk hj).1 h1 i h2 (F.2.2.2.2 _ h4) (fun _ h => h) h7 h8 hn hf hi hdg (fun H1 locs1 q1 _ q3 => kk H1 locs1 (hG.wr hk hj q1 q3))
  · exact va_putN F.1 F.2.1 F.2.2.2.2 h3 tf h5 h6 F.2.2.2.1 hK.1 (gP_flat.mp hG.1) (gN_flat hG.2.1) hG.2.2 (goff S k j) (gflat hk hj).1 h1 i h2 (va_Nw.use rfl (hK.2.1 _ h4)) (fun _ h => h) h7 h8 hn hf hi hdg (fun H1 locs1 q1 _ q3 => kk H1 locs1 (hG.wr hk hj q1 q3))
theorem g_iald (F : gF p m c cc nL s args own) (hK : gK E s) (hP : gP E S H) (k j : Nat) {sg : va_W} {a n : Nat} {f : Nat → Int32} {i x : Int32} (hk : S[k]? = some sg) (hj : sg[j]? = some (a, .inl (E.2.1.1, n, .inl f))) (hx : rd f n i = some x) (hdg : decode cc pc = .ok (.iaload, 1))
    (kk : W p l e R s m args below meth c H locs cells slots Q (F0 m (pc + 1) ls (.int x :: rest))) : W p l e R s m args below meth c H locs cells slots Q (F0 m pc ls (.int i :: .ref a :: rest)) := by
  obtain ⟨h1, h2⟩ := rd_in hx
  subst h2
  exact va_iald F.1 F.2.1 hK.1 (hP.seg k hk) j 0 hj rfl h1 hdg kk
theorem g_lald (F : gF p m c cc nL s args own) (hK : gK E s) (hP : gP E S H) (k j : Nat) {sg : va_W} {a n : Nat} {f : Nat → Int64} {i : Int32} {x : Int64} (hk : S[k]? = some sg) (hj : sg[j]? = some (a, .inl (E.2.1.2.1, n, .inr (.inl f)))) (hx : rd f n i = some x) (hdg : decode cc pc = .ok (.laload, 1))
    (kk : W p l e R s m args below meth c H locs cells slots Q (F0 m (pc + 1) ls (.long x :: rest))) : W p l e R s m args below meth c H locs cells slots Q (F0 m pc ls (.int i :: .ref a :: rest)) := by
  obtain ⟨h1, h2⟩ := rd_in hx
  subst h2
  exact va_lald F.1 F.2.1 hK.1 (hP.seg k hk) j 1 hj rfl h1 hdg kk
theorem g_zald (F : gF p m c cc nL s args own) (hK : gK E s) (hP : gP E S H) (k j : Nat) {sg : va_W} {a n : Nat} {f : Nat → Int32} {i x : Int32} (hk : S[k]? = some sg) (hj : sg[j]? = some (a, .inl (E.2.1.2.2.1, n, .inl f))) (hx : rd f n i = some x) (hdg : decode cc pc = .ok (.baload, 1))
    (kk : W p l e R s m args below meth c H locs cells slots Q (F0 m (pc + 1) ls (.int x :: rest))) : W p l e R s m args below meth c H locs cells slots Q (F0 m pc ls (.int i :: .ref a :: rest)) := by
  obtain ⟨h1, h2⟩ := rd_in hx
  subst h2
  exact va_zald F.1 F.2.1 hK.1 (hP.seg k hk) j 2 hj rfl h1 hdg kk
theorem g_iast (F : gF p m c cc nL s args own) (hK : gK E s) (hG : gS E A H0 S H locs) (k j : Nat) {sg : va_W} {a n : Nat} {f g : Nat → Int32} {i x : Int32} (hk : S[k]? = some sg) (hj : sg[j]? = some (a, .inl (E.2.1.1, n, .inl f))) (hx : wr f n i x = some g) (hdg : decode cc pc = .ok (.iastore, 1))
    (kk : ∀ (H1 : Heap) (locs1 : List Loc), gS E A H0 (S.set k (sg.set j (a, .inl (E.2.1.1, n, .inl g)))) H1 locs1 → W p l e R s m args below meth c H1 locs1 cells slots Q (F0 m (pc + 1) ls rest)) : W p l e R s m args below meth c H locs cells slots Q (F0 m pc ls (.int x :: .int i :: .ref a :: rest)) := by
  obtain ⟨h1, h2⟩ := wr_in hx
  subst h2
  exact va_iast F.1 F.2.1 hK.1 (gP_flat.mp hG.1) (gN_flat hG.2.1) hG.2.2 (goff S k j) 0 (gflat hk hj).1 rfl h1 hdg (fun H1 locs1 q1 _ q3 => kk H1 locs1 (hG.wr hk hj q1 q3))
theorem g_last (F : gF p m c cc nL s args own) (hK : gK E s) (hG : gS E A H0 S H locs) (k j : Nat) {sg : va_W} {a n : Nat} {f g : Nat → Int64} {i : Int32} {x : Int64} (hk : S[k]? = some sg) (hj : sg[j]? = some (a, .inl (E.2.1.2.1, n, .inr (.inl f)))) (hx : wrL f n i x = some g) (hdg : decode cc pc = .ok (.lastore, 1))
    (kk : ∀ (H1 : Heap) (locs1 : List Loc), gS E A H0 (S.set k (sg.set j (a, .inl (E.2.1.2.1, n, .inr (.inl g))))) H1 locs1 → W p l e R s m args below meth c H1 locs1 cells slots Q (F0 m (pc + 1) ls rest)) : W p l e R s m args below meth c H locs cells slots Q (F0 m pc ls (.long x :: .int i :: .ref a :: rest)) := by
  obtain ⟨h1, h2⟩ := wrL_in hx
  subst h2
  exact va_last F.1 F.2.1 hK.1 (gP_flat.mp hG.1) (gN_flat hG.2.1) hG.2.2 (goff S k j) 1 (gflat hk hj).1 rfl h1 hdg (fun H1 locs1 q1 _ q3 => kk H1 locs1 (hG.wr hk hj q1 q3))
theorem g_zast (F : gF p m c cc nL s args own) (hK : gK E s) (hG : gS E A H0 S H locs) (k j : Nat) {sg : va_W} {a n : Nat} {f g : Nat → Int32} {i x : Int32} (hk : S[k]? = some sg) (hj : sg[j]? = some (a, .inl (E.2.1.2.2.1, n, .inl f))) (hx : wr f n i x = some g) (hb : vp_nar .boolean x = x) (hdg : decode cc pc = .ok (.bastore, 1))
    (kk : ∀ (H1 : Heap) (locs1 : List Loc), gS E A H0 (S.set k (sg.set j (a, .inl (E.2.1.2.2.1, n, .inl g)))) H1 locs1 → W p l e R s m args below meth c H1 locs1 cells slots Q (F0 m (pc + 1) ls rest)) : W p l e R s m args below meth c H locs cells slots Q (F0 m pc ls (.int x :: .int i :: .ref a :: rest)) := by
  obtain ⟨h1, h2⟩ := wr_in hx
  subst h2
  exact va_zast F.1 F.2.1 hK.1 (gP_flat.mp hG.1) (gN_flat hG.2.1) hG.2.2 (goff S k j) 2 (gflat hk hj).1 rfl h1 hdg (fun H1 locs1 q1 _ q3 => kk H1 locs1 (hG.wr hk hj (by rw [hb] at q1; exact q1) q3))
/-! ===== calls ===== -/
theorem g_runR {v : Option Value} {st0 : List Value} {a : Array Value} (hr : va_Run p l e R s m args below meth c H locs cells slots 0 0 (F0 m pc ls st0) rest (gqR v a) (fun _ => False))
    (kk : W p l e R s m args below meth c H locs cells slots Q (F0 m (pc + 3) ls (v.toList ++ rest))) : W p l e R s m args below meth c H locs cells slots Q (F0 m pc ls st0) := by
  intro T hT X
  obtain ⟨v', st₀, t, T', L, h0, X', hL, e1, e2, ⟨hv, hh⟩, st⟩ := hr T hT X
  cases hv
  obtain ⟨t2, a1, b1⟩ := kk T' (by rw [e1, hh, h0]) (Stand.forget X' (fun q h => (hL q h).elim))
  exact ⟨t2, st t2 a1, b1⟩
theorem g_runM {v : Option Value} {st0 : List Value} {a : Array Value} {Sc Sc' S' : List va_W} (hr : va_Run p l e R s m args below meth c H locs cells slots 0 0 (F0 m pc ls st0) rest (gqM E v Sc Sc' a) (gAd Sc)) (hG : gS E A H0 S H locs) (is : List Nat) (hs : is.map (fun i => S[i]?) = Sc.map some) (hn : va_nd is = true) (hg : Sc'.map gas = Sc.map gas) (hS' : gset S is Sc' = S')
    (kk : ∀ (H1 : Heap) (locs1 : List Loc), gS E A H0 S' H1 locs1 → W p l e R s m args below meth c H1 locs1 cells slots Q (F0 m (pc + 3) ls (v.toList ++ rest))) : W p l e R s m args below meth c H locs cells slots Q (F0 m pc ls st0) := by
  subst hS'
  have hf : ∀ q, gAd Sc q → A q := fun q h => (hG.2.1.sub is hs hn).2 q (gAd_iff.mp h)
  intro T hT X
  obtain ⟨v', st₀, t, T', L, h0, X', hL, e1, e2, ⟨⟨hv, hp⟩, hz, hk⟩, st⟩ := hr T hT X
  cases hv
  rw [h0] at hz hk
  obtain ⟨t2, a1, b1⟩ := kk T'.heap (locs ++ L) ⟨by rw [e1]; exact hG.1.call hG.2.1 is hs hg hp hk, by rw [gset_map is Sc Sc' S hs hn hg]; exact hG.2.1,
    ⟨Nat.le_trans hG.2.2.1 (by rw [e1]; exact hz), fun q h1 h2 => by rw [e1, hk q (Nat.lt_of_lt_of_le h1 hG.2.2.1) (fun z => h2 (hf q z))]; exact hG.2.2.2.1 q h1 h2, fun q hq => by
      rcases List.mem_append.mp hq with h | h
      · exact hG.2.2.2.2 q h
      · exact hf _ (hL q h)⟩⟩ T' rfl X'
  exact ⟨t2, st t2 a1, b1⟩
theorem g_recv {Sc : List va_W} {C : String} {T : u_T} {N b ci : Nat} {sg : va_W} {fs : List Value} (hK : gK E s) (hP : gP E Sc H) (hk : Sc[0]? = some sg) (hj : sg[0]? = some (b, .inr (ci, fs))) (hc : vwCl[ci]? = some (C, T, N)) : ∃ cell : Cell, H[b]? = some cell ∧ cell.vm.isStatics = false ∧ s.vm.findClass C = some cell.cls := va_recv hK.1 (hP.seg 0 hk) hc hj
/-- a call of an instance method that reads -/
theorem g_rv {y : MethodName} {bytes : ByteArray} {maxL n index b ci N : Nat} {ret : Option FieldType} {rm : Room} {As : List Value} {Sc : List va_W} {C : String} {T : u_T} {sg : va_W} {fs : List Value} {v : Value} (F : gF p m c cc nL s args own) (hK : gK E s) (hX : gX E s H) (hP : gP E S H) (is : List Nat) (hs : is.filterMap (fun i => S[i]?) = Sc) (hM : gR l y bytes maxL ret rm E (.ref b :: As) Sc (some v)) (cw : CallW R s args own C index y bytes maxL ret (gws y bytes maxL ret) rm 0 0 n) (hk : Sc[0]? = some sg) (hj : sg[0]? = some (b, .inr (ci, fs))) (hc : vwCl[ci]? = some (C, T, N)) (hn : As.length = n) (hl : ls.size = nL) {st : List Value} (hst : st = As.reverse ++ .ref b :: rest) (hW : 2 * (F0 m pc ls st).monitorRoom + (rest.map fun v => v.category).sum ≤ 8) (hf : cells ≤ R.cells ∧ slots ≤ R.slots) (hdg : decode cc pc = .ok (.invokevirtual index, 3))
    (kk : W p l e R s m args below meth c H locs cells slots Q (F0 m (pc + 3) ls (v :: rest))) : W p l e R s m args below meth c H locs cells slots Q (F0 m pc ls st) :=
  g_runR (va_runV F hM cw ⟨gpre_blind, g_recv hK (hP.sub is hs) hk hj hc, fun U hU hW => ⟨rfl, hK.warm hW, by rw [hU]; exact hX.moved hW.alike, by rw [hU]; exact hP.sub is hs⟩⟩ rfl hn hl hst hW hdg hf) kk
theorem g_rs {y : MethodName} {bytes : ByteArray} {maxL n index : Nat} {ret : Option FieldType} {rm : Room} {As : List Value} {Sc : List va_W} {v : Value} (F : gF p m c cc nL s args own) (hK : gK E s) (hX : gX E s H) (hP : gP E S H) (is : List Nat) (hs : is.filterMap (fun i => S[i]?) = Sc) (hM : gR l y bytes maxL ret rm E As Sc (some v)) (cw : CallB R s args own index y bytes maxL ret (gws y bytes maxL ret) rm 0 0 n ∧ (Cond.static y).before args s = true) (hn : As.length = n) (hl : ls.size = nL) {st : List Value} (hst : st = As.reverse ++ rest) (hW : 2 * (F0 m pc ls st).monitorRoom + (rest.map fun v => v.category).sum ≤ 8) (hf : cells ≤ R.cells ∧ slots ≤ R.slots) (hdg : decode cc pc = .ok (.invokestatic index, 3))
    (kk : W p l e R s m args below meth c H locs cells slots Q (F0 m (pc + 3) ls (v :: rest))) : W p l e R s m args below meth c H locs cells slots Q (F0 m pc ls st) :=
  g_runR (va_runS F hM cw ⟨gpre_blind, fun U hU hW => ⟨rfl, hK.warm hW, by rw [hU]; exact hX.moved hW.alike, by rw [hU]; exact hP.sub is hs⟩⟩ rfl hn hl hst hW hdg hf) kk
theorem g_nd_sub {S Sc : List va_W} {is : List Nat} (hs : is.map (fun i => S[i]?) = Sc.map some) : is.filterMap (fun i => S[i]?) = Sc := by
  have h : (is.map (fun i => S[i]?)).filterMap id = (Sc.map some).filterMap id := by rw [hs]
  simpa [List.filterMap_map, Function.comp_def] using h
theorem g_mv0 {y : MethodName} {bytes : ByteArray} {maxL n index b ci N : Nat} {ret : Option FieldType} {rm : Room} {As : List Value} {Sc Sc' S' : List va_W} {C : String} {T : u_T} {sg : va_W} {fs : List Value} {v : Option Value} (F : gF p m c cc nL s args own) (hK : gK E s) (hX : gX E s s.heap) (hAB : ∀ q, A q → gB E q) (hG : gS E A s.heap S H locs) (is : List Nat) (hs : is.map (fun i => S[i]?) = Sc.map some) (hnd : va_nd is = true) (hM : gM l y bytes maxL ret rm E (.ref b :: As) Sc v Sc') (hS' : gset S is Sc' = S') (cw : CallW R s args own C index y bytes maxL ret (gws y bytes maxL ret) rm 0 0 n) (hk : Sc[0]? = some sg) (hj : sg[0]? = some (b, .inr (ci, fs))) (hc : vwCl[ci]? = some (C, T, N)) (hn : As.length = n) (hl : ls.size = nL) {st : List Value} (hst : st = As.reverse ++ .ref b :: rest) (hW : 2 * (F0 m pc ls st).monitorRoom + (rest.map fun v => v.category).sum ≤ 8) (hf : cells ≤ R.cells ∧ slots ≤ R.slots) (hdg : decode cc pc = .ok (.invokevirtual index, 3))
    (kk : ∀ (H1 : Heap) (locs1 : List Loc), gS E A s.heap S' H1 locs1 → W p l e R s m args below meth c H1 locs1 cells slots Q (F0 m (pc + 3) ls (v.toList ++ rest))) : W p l e R s m args below meth c H locs cells slots Q (F0 m pc ls st) :=
  g_runM (va_runV F hM.2 cw ⟨gpreM_blind, g_recv hK (hG.1.sub is (g_nd_sub hs)) hk hj hc, fun U hU hW => ⟨rfl, hK.warm hW, by rw [hU]; exact (hG.X hX hAB).moved hW.alike, by rw [hU]; exact hG.1.sub is (g_nd_sub hs), ⟨(hG.2.1.sub is hs hnd).1, fun q h => hAB q ((hG.2.1.sub is hs hnd).2 q h)⟩⟩⟩ rfl hn hl hst hW hdg hf) hG is hs hnd hM.1 hS' kk
/-- a call of an instance method that writes: with an answer, without one -/
theorem g_mv {y : MethodName} {bytes : ByteArray} {maxL n index b ci N : Nat} {ret : Option FieldType} {rm : Room} {As : List Value} {Sc Sc' S' : List va_W} {C : String} {T : u_T} {sg : va_W} {fs : List Value} {v : Value} (F : gF p m c cc nL s args own) (hK : gK E s) (hX : gX E s s.heap) (hAB : ∀ q, A q → gB E q) (hG : gS E A s.heap S H locs) (is : List Nat) (hs : is.map (fun i => S[i]?) = Sc.map some) (hnd : va_nd is = true) (hM : gM l y bytes maxL ret rm E (.ref b :: As) Sc (some v) Sc') (hS' : gset S is Sc' = S') (cw : CallW R s args own C index y bytes maxL ret (gws y bytes maxL ret) rm 0 0 n) (hk : Sc[0]? = some sg) (hj : sg[0]? = some (b, .inr (ci, fs))) (hc : vwCl[ci]? = some (C, T, N)) (hn : As.length = n) (hl : ls.size = nL) {st : List Value} (hst : st = As.reverse ++ .ref b :: rest) (hW : 2 * (F0 m pc ls st).monitorRoom + (rest.map fun v => v.category).sum ≤ 8) (hf : cells ≤ R.cells ∧ slots ≤ R.slots) (hdg : decode cc pc = .ok (.invokevirtual index, 3))
    (kk : ∀ (H1 : Heap) (locs1 : List Loc), gS E A s.heap S' H1 locs1 → W p l e R s m args below meth c H1 locs1 cells slots Q (F0 m (pc + 3) ls (v :: rest))) : W p l e R s m args below meth c H locs cells slots Q (F0 m pc ls st) :=
  g_mv0 F hK hX hAB hG is hs hnd hM hS' cw hk hj hc hn hl hst hW hf hdg kk
theorem g_mvv {y : MethodName} {bytes : ByteArray} {maxL n index b ci N : Nat} {ret : Option FieldType} {rm : Room} {As : List Value} {Sc Sc' S' : List va_W} {C : String} {T : u_T} {sg : va_W} {fs : List Value} (F : gF p m c cc nL s args own) (hK : gK E s) (hX : gX E s s.heap) (hAB : ∀ q, A q → gB E q) (hG : gS E A s.heap S H locs) (is : List Nat) (hs : is.map (fun i => S[i]?) = Sc.map some) (hnd : va_nd is = true) (hM : gM l y bytes maxL ret rm E (.ref b :: As) Sc none Sc') (hS' : gset S is Sc' = S') (cw : CallW R s args own C index y bytes maxL ret (gws y bytes maxL ret) rm 0 0 n) (hk : Sc[0]? = some sg) (hj : sg[0]? = some (b, .inr (ci, fs))) (hc : vwCl[ci]? = some (C, T, N)) (hn : As.length = n) (hl : ls.size = nL) {st : List Value} (hst : st = As.reverse ++ .ref b :: rest) (hW : 2 * (F0 m pc ls st).monitorRoom + (rest.map fun v => v.category).sum ≤ 8) (hf : cells ≤ R.cells ∧ slots ≤ R.slots) (hdg : decode cc pc = .ok (.invokevirtual index, 3))
    (kk : ∀ (H1 : Heap) (locs1 : List Loc), gS E A s.heap S' H1 locs1 → W p l e R s m args below meth c H1 locs1 cells slots Q (F0 m (pc + 3) ls rest)) : W p l e R s m args below meth c H locs cells slots Q (F0 m pc ls st) :=
  g_mv0 F hK hX hAB hG is hs hnd hM hS' cw hk hj hc hn hl hst hW hf hdg kk
/-! ===== lcmp and the branch behind it ===== -/
theorem g_lc_eq {x y : Int64} {off : Int} {tgt : Nat} (hx : p.tables.exec = Jvm.exec) (hb : c.code = cc) (d1 : decode cc pc = .ok (.lcmp, 1)) (d2 : decode cc (pc + 1) = .ok (.ifCond .eq off, 3)) (ht : ((pc + 1 : Nat) : Int) + off = (tgt : Int)) (kt : x = y → W p l e R s m args below meth c H locs cells slots Q (F0 m tgt ls rest)) (kf : ¬ x = y → W p l e R s m args below meth c H locs cells slots Q (F0 m (pc + 4) ls rest)) : W p l e R s m args below meth c H locs cells slots Q (F0 m pc ls (.long y :: .long x :: rest)) :=
  W.lcmp hx hb d1 (lv_if_eq hx hb d2 ht (fun h => kt ((lg_cmp_eq x y).mp h)) (fun h => kf (fun q => h ((lg_cmp_eq x y).mpr q))))
theorem g_lc_ne {x y : Int64} {off : Int} {tgt : Nat} (hx : p.tables.exec = Jvm.exec) (hb : c.code = cc) (d1 : decode cc pc = .ok (.lcmp, 1)) (d2 : decode cc (pc + 1) = .ok (.ifCond .ne off, 3)) (ht : ((pc + 1 : Nat) : Int) + off = (tgt : Int)) (kt : ¬ x = y → W p l e R s m args below meth c H locs cells slots Q (F0 m tgt ls rest)) (kf : x = y → W p l e R s m args below meth c H locs cells slots Q (F0 m (pc + 4) ls rest)) : W p l e R s m args below meth c H locs cells slots Q (F0 m pc ls (.long y :: .long x :: rest)) :=
  W.lcmp hx hb d1 (lv_if_ne hx hb d2 ht (fun h => kt (fun q => h ((lg_cmp_eq x y).mpr q))) (fun h => kf ((lg_cmp_eq x y).mp h)))
theorem g_lc_lt {x y : Int64} {off : Int} {tgt : Nat} (hx : p.tables.exec = Jvm.exec) (hb : c.code = cc) (d1 : decode cc pc = .ok (.lcmp, 1)) (d2 : decode cc (pc + 1) = .ok (.ifCond .lt off, 3)) (ht : ((pc + 1 : Nat) : Int) + off = (tgt : Int)) (kt : x < y → W p l e R s m args below meth c H locs cells slots Q (F0 m tgt ls rest)) (kf : ¬ x < y → W p l e R s m args below meth c H locs cells slots Q (F0 m (pc + 4) ls rest)) : W p l e R s m args below meth c H locs cells slots Q (F0 m pc ls (.long y :: .long x :: rest)) :=
  W.lcmp hx hb d1 (lv_if_lt hx hb d2 ht (fun h => kt ((lg_cmp_lt x y).mp h)) (fun h => kf (fun q => h ((lg_cmp_lt x y).mpr q))))
theorem g_lc_ge {x y : Int64} {off : Int} {tgt : Nat} (hx : p.tables.exec = Jvm.exec) (hb : c.code = cc) (d1 : decode cc pc = .ok (.lcmp, 1)) (d2 : decode cc (pc + 1) = .ok (.ifCond .ge off, 3)) (ht : ((pc + 1 : Nat) : Int) + off = (tgt : Int)) (kt : y ≤ x → W p l e R s m args below meth c H locs cells slots Q (F0 m tgt ls rest)) (kf : ¬ y ≤ x → W p l e R s m args below meth c H locs cells slots Q (F0 m (pc + 4) ls rest)) : W p l e R s m args below meth c H locs cells slots Q (F0 m pc ls (.long y :: .long x :: rest)) :=
  W.lcmp hx hb d1 (lv_if_ge hx hb d2 ht (fun h => kt ((lg_cmp_ge x y).mp h)) (fun h => kf (fun q => h ((lg_cmp_ge x y).mpr q))))
theorem g_lc_gt {x y : Int64} {off : Int} {tgt : Nat} (hx : p.tables.exec = Jvm.exec) (hb : c.code = cc) (d1 : decode cc pc = .ok (.lcmp, 1)) (d2 : decode cc (pc + 1) = .ok (.ifCond .gt off, 3)) (ht : ((pc + 1 : Nat) : Int) + off = (tgt : Int)) (kt : y < x → W p l e R s m args below meth c H locs cells slots Q (F0 m tgt ls rest)) (kf : ¬ y < x → W p l e R s m args below meth c H locs cells slots Q (F0 m (pc + 4) ls rest)) : W p l e R s m args below meth c H locs cells slots Q (F0 m pc ls (.long y :: .long x :: rest)) :=
  W.lcmp hx hb d1 (lv_if_gt hx hb d2 ht (fun h => kt ((lg_cmp_gt x y).mp h)) (fun h => kf (fun q => h ((lg_cmp_gt x y).mpr q))))
/-! ===== ends ===== -/
theorem g_retI {v : Int32} (F : gF p m c cc nL s args own) (hr : meth.sig.returnType = some .int) (hlk : meth.locks = false) (hdg : decode cc pc = .ok (.ireturn, 1)) : W p l e R s m args below meth c s.heap [] 0 0 (MQ below (gqR (some (.int v))) args s 0 0 (fun _ => False)) (F0 m pc ls [.int v]) := W.iret F.1 F.2.1 hr (fun t ht _ => ⟨rfl, ht⟩) (fun _ h => nomatch h) hdg hlk
theorem g_retZ {v : Int32} (F : gF p m c cc nL s args own) (hr : meth.sig.returnType = some .boolean) (hlk : meth.locks = false) (hn : narrow .boolean (.int v) = .int v) (hdg : decode cc pc = .ok (.ireturn, 1)) : W p l e R s m args below meth c s.heap [] 0 0 (MQ below (gqR (some (.int v))) args s 0 0 (fun _ => False)) (F0 m pc ls [.int v]) := W.zret F.1 F.2.1 hr hn (fun t ht _ => ⟨rfl, ht⟩) (fun _ h => nomatch h) hdg hlk
theorem g_retL {v : Int64} (F : gF p m c cc nL s args own) (hr : meth.sig.returnType = some .long) (hlk : meth.locks = false) (hdg : decode cc pc = .ok (.lreturn, 1)) : W p l e R s m args below meth c s.heap [] 0 0 (MQ below (gqR (some (.long v))) args s 0 0 (fun _ => False)) (F0 m pc ls [.long v]) := W.lret F.1 F.2.1 hr (fun t ht _ => ⟨rfl, ht⟩) (fun _ h => nomatch h) hdg hlk
theorem g_retD {v : UInt64} (F : gF p m c cc nL s args own) (hr : meth.sig.returnType = some .double) (hlk : meth.locks = false) (hdg : decode cc pc = .ok (.dreturn, 1)) : W p l e R s m args below meth c s.heap [] 0 0 (MQ below (gqR (some (.double v))) args s 0 0 (fun _ => False)) (F0 m pc ls [.double v]) := W.dret F.1 F.2.1 hr (fun t ht _ => ⟨rfl, ht⟩) (fun _ h => nomatch h) hdg hlk
theorem g_mretI {v : Int32} {S0 : List va_W} (F : gF p m c cc nL s args own) (hr : meth.sig.returnType = some .int) (hlk : meth.locks = false) (hG : gS E (gAd S0) s.heap S H locs) (hdg : decode cc pc = .ok (.ireturn, 1)) : W p l e R s m args below meth c H locs 0 0 (MQ below (gqM E (some (.int v)) S0 S) args s 0 0 (gAd S0)) (F0 m pc ls [.int v]) := W.iret F.1 F.2.1 hr (fun t ht _ => ⟨⟨rfl, by rw [ht]; exact hG.1⟩, hG.2.2.F ht⟩) hG.2.2.2.2 hdg hlk
theorem g_mretZ {v : Int32} {S0 : List va_W} (F : gF p m c cc nL s args own) (hr : meth.sig.returnType = some .boolean) (hlk : meth.locks = false) (hG : gS E (gAd S0) s.heap S H locs) (hn : narrow .boolean (.int v) = .int v) (hdg : decode cc pc = .ok (.ireturn, 1)) : W p l e R s m args below meth c H locs 0 0 (MQ below (gqM E (some (.int v)) S0 S) args s 0 0 (gAd S0)) (F0 m pc ls [.int v]) := W.zret F.1 F.2.1 hr hn (fun t ht _ => ⟨⟨rfl, by rw [ht]; exact hG.1⟩, hG.2.2.F ht⟩) hG.2.2.2.2 hdg hlk
theorem g_mretL {v : Int64} {S0 : List va_W} (F : gF p m c cc nL s args own) (hr : meth.sig.returnType = some .long) (hlk : meth.locks = false) (hG : gS E (gAd S0) s.heap S H locs) (hdg : decode cc pc = .ok (.lreturn, 1)) : W p l e R s m args below meth c H locs 0 0 (MQ below (gqM E (some (.long v)) S0 S) args s 0 0 (gAd S0)) (F0 m pc ls [.long v]) := W.lret F.1 F.2.1 hr (fun t ht _ => ⟨⟨rfl, by rw [ht]; exact hG.1⟩, hG.2.2.F ht⟩) hG.2.2.2.2 hdg hlk
theorem g_mretD {v : UInt64} {S0 : List va_W} (F : gF p m c cc nL s args own) (hr : meth.sig.returnType = some .double) (hlk : meth.locks = false) (hG : gS E (gAd S0) s.heap S H locs) (hdg : decode cc pc = .ok (.dreturn, 1)) : W p l e R s m args below meth c H locs 0 0 (MQ below (gqM E (some (.double v)) S0 S) args s 0 0 (gAd S0)) (F0 m pc ls [.double v]) := W.dret F.1 F.2.1 hr (fun t ht _ => ⟨⟨rfl, by rw [ht]; exact hG.1⟩, hG.2.2.F ht⟩) hG.2.2.2.2 hdg hlk
theorem g_mretV {S0 : List va_W} (F : gF p m c cc nL s args own) (hr : meth.sig.returnType = none) (hlk : meth.locks = false) (hG : gS E (gAd S0) s.heap S H locs) (hdg : decode cc pc = .ok (.return_, 1)) : W p l e R s m args below meth c H locs 0 0 (MQ below (gqM E none S0 S) args s 0 0 (gAd S0)) (F0 m pc ls []) := W.vret F.1 F.2.1 hr (fun t ht _ => ⟨⟨rfl, by rw [ht]; exact hG.1⟩, hG.2.2.F ht⟩) hG.2.2.2.2 hdg hlk
end GROWS
end
