def gx_G : List Cond := lw_tbl.filter goodWord
theorem gx_mem {w : Cond} (i : Nat) (h : lw_tbl[i]? = some w) (hg : goodWord w = true) : w ∈ gx_G := List.mem_filter.mpr ⟨List.mem_of_getElem? h, hg⟩
theorem gx_tb {w : Cond} (h : w ∈ tables_1) (hg : goodWord w = true) : w ∈ gx_G := List.mem_filter.mpr ⟨List.mem_append_right _ h, hg⟩
theorem gx_c1 (w : Cond) (h : w ∈ tables_1_1) (hg : goodWord w = true) : w ∈ gx_G := gx_tb (List.mem_append_left _ h) hg
theorem gx_c2 (w : Cond) (h : w ∈ tables_1_2) (hg : goodWord w = true) : w ∈ gx_G := gx_tb (List.mem_append_right _ (List.mem_append_left _ h)) hg
theorem gx_c3 (w : Cond) (h : w ∈ tables_1_3) (hg : goodWord w = true) : w ∈ gx_G := gx_tb (List.mem_append_right _ (List.mem_append_right _ (List.mem_append_left _ h))) hg
theorem gx_c4 (w : Cond) (h : w ∈ tables_1_4) (hg : goodWord w = true) : w ∈ gx_G := gx_tb (List.mem_append_right _ (List.mem_append_right _ (List.mem_append_right _ (h)))) hg
theorem gx_sel {q : MethodName × Nat} {w : Cond} (hw : w = Cond.selects q.1.cls q.1 q.1) (h : q ∈ lw_privs) (hg : goodWord w = true) : w ∈ gx_G := List.mem_filter.mpr ⟨List.mem_append_left _ (List.mem_map.mpr ⟨q, h, hw.symm⟩), hg⟩
theorem gw_s0 : Cond.selects "KeypadWriter$SavedStates" ⟨"KeypadWriter$SavedStates", "dropOldest", "()V"⟩ ⟨"KeypadWriter$SavedStates", "dropOldest", "()V"⟩ ∈ gx_G := gx_sel (q := (⟨"KeypadWriter$SavedStates", "dropOldest", "()V"⟩, 2)) rfl (List.mem_of_getElem? (i := 0) rfl) rfl
theorem gw_s1 : Cond.selects "KeypadWriter$SavedStates" ⟨"KeypadWriter$SavedStates", "stateAt", "(I)LKeypadWriter$State;"⟩ ⟨"KeypadWriter$SavedStates", "stateAt", "(I)LKeypadWriter$State;"⟩ ∈ gx_G := gx_sel (q := (⟨"KeypadWriter$SavedStates", "stateAt", "(I)LKeypadWriter$State;"⟩, 2)) rfl (List.mem_of_getElem? (i := 1) rfl) rfl
theorem gw_s2 : Cond.selects "KeypadWriter" ⟨"KeypadWriter", "displayed", "()J"⟩ ⟨"KeypadWriter", "displayed", "()J"⟩ ∈ gx_G := gx_sel (q := (⟨"KeypadWriter", "displayed", "()J"⟩, 5)) rfl (List.mem_of_getElem? (i := 2) rfl) rfl
theorem gw_s3 : Cond.selects "KeypadWriter$Candidates" ⟨"KeypadWriter$Candidates", "insert", "(LKeypadWriter$WordList;II)V"⟩ ⟨"KeypadWriter$Candidates", "insert", "(LKeypadWriter$WordList;II)V"⟩ ∈ gx_G := gx_sel (q := (⟨"KeypadWriter$Candidates", "insert", "(LKeypadWriter$WordList;II)V"⟩, 2)) rfl (List.mem_of_getElem? (i := 3) rfl) rfl
theorem gw_s4 : Cond.selects "java/lang/Throwable" ⟨"java/lang/Throwable", "fillInStackTrace", "(I)Ljava/lang/Throwable;"⟩ ⟨"java/lang/Throwable", "fillInStackTrace", "(I)Ljava/lang/Throwable;"⟩ ∈ gx_G := gx_sel (q := (⟨"java/lang/Throwable", "fillInStackTrace", "(I)Ljava/lang/Throwable;"⟩, 6)) rfl (List.mem_of_getElem? (i := 4) rfl) rfl
theorem gw_s5 : Cond.selects "KeypadWriter" ⟨"KeypadWriter", "settingOf", "(I)I"⟩ ⟨"KeypadWriter", "settingOf", "(I)I"⟩ ∈ gx_G := gx_sel (q := (⟨"KeypadWriter", "settingOf", "(I)I"⟩, 5)) rfl (List.mem_of_getElem? (i := 5) rfl) rfl
theorem gw_s6 : Cond.selects "KeypadWriter" ⟨"KeypadWriter", "mixedWord", "(JI)J"⟩ ⟨"KeypadWriter", "mixedWord", "(JI)J"⟩ ∈ gx_G := gx_sel (q := (⟨"KeypadWriter", "mixedWord", "(JI)J"⟩, 5)) rfl (List.mem_of_getElem? (i := 6) rfl) rfl
theorem gw_s7 : Cond.selects "KeypadWriter" ⟨"KeypadWriter", "placeValue", "(I)I"⟩ ⟨"KeypadWriter", "placeValue", "(I)I"⟩ ∈ gx_G := gx_sel (q := (⟨"KeypadWriter", "placeValue", "(I)I"⟩, 5)) rfl (List.mem_of_getElem? (i := 7) rfl) rfl
theorem gw_s8 : Cond.selects "KeypadWriter$ListText" ⟨"KeypadWriter$ListText", "readItem", "(LKeypadWriter$WordList;)Z"⟩ ⟨"KeypadWriter$ListText", "readItem", "(LKeypadWriter$WordList;)Z"⟩ ∈ gx_G := gx_sel (q := (⟨"KeypadWriter$ListText", "readItem", "(LKeypadWriter$WordList;)Z"⟩, 3)) rfl (List.mem_of_getElem? (i := 8) rfl) rfl
theorem gw_s9 : Cond.selects "KeypadWriter$ListText" ⟨"KeypadWriter$ListText", "readWord", "()J"⟩ ⟨"KeypadWriter$ListText", "readWord", "()J"⟩ ∈ gx_G := gx_sel (q := (⟨"KeypadWriter$ListText", "readWord", "()J"⟩, 3)) rfl (List.mem_of_getElem? (i := 9) rfl) rfl
theorem gw_s10 : Cond.selects "KeypadWriter$ListText" ⟨"KeypadWriter$ListText", "isHere", "(II)Z"⟩ ⟨"KeypadWriter$ListText", "isHere", "(II)Z"⟩ ∈ gx_G := gx_sel (q := (⟨"KeypadWriter$ListText", "isHere", "(II)Z"⟩, 3)) rfl (List.mem_of_getElem? (i := 10) rfl) rfl
theorem gw_s11 : Cond.selects "KeypadWriter$ListText" ⟨"KeypadWriter$ListText", "byteHere", "()I"⟩ ⟨"KeypadWriter$ListText", "byteHere", "()I"⟩ ∈ gx_G := gx_sel (q := (⟨"KeypadWriter$ListText", "byteHere", "()I"⟩, 3)) rfl (List.mem_of_getElem? (i := 11) rfl) rfl
theorem gw_s12 : Cond.selects "KeypadWriter$ListText" ⟨"KeypadWriter$ListText", "readCount", "()I"⟩ ⟨"KeypadWriter$ListText", "readCount", "()I"⟩ ∈ gx_G := gx_sel (q := (⟨"KeypadWriter$ListText", "readCount", "()I"⟩, 3)) rfl (List.mem_of_getElem? (i := 12) rfl) rfl
theorem gw_s13 : Cond.selects "KeypadWriter$WordList" ⟨"KeypadWriter$WordList", "lastAdded", "()I"⟩ ⟨"KeypadWriter$WordList", "lastAdded", "()I"⟩ ∈ gx_G := gx_sel (q := (⟨"KeypadWriter$WordList", "lastAdded", "()I"⟩, 6)) rfl (List.mem_of_getElem? (i := 13) rfl) rfl
theorem gw_s14 : Cond.selects "KeypadWriter$WordList" ⟨"KeypadWriter$WordList", "sharesKeys", "(I)Z"⟩ ⟨"KeypadWriter$WordList", "sharesKeys", "(I)Z"⟩ ∈ gx_G := gx_sel (q := (⟨"KeypadWriter$WordList", "sharesKeys", "(I)Z"⟩, 6)) rfl (List.mem_of_getElem? (i := 14) rfl) rfl
theorem gw_0 : Cond.initialized "KeypadWriterLaw" ∈ gx_G := gx_c1 _ (List.mem_of_getElem? (i := 0) rfl) rfl
theorem gw_1 : Cond.initialized "KeypadWriter" ∈ gx_G := gx_c1 _ (List.mem_of_getElem? (i := 1) rfl) rfl
theorem gw_2 : Cond.initialized "KeypadWriter$ListText" ∈ gx_G := gx_c1 _ (List.mem_of_getElem? (i := 2) rfl) rfl
theorem gw_3 : Cond.initialized "KeypadWriter$WordList" ∈ gx_G := gx_c1 _ (List.mem_of_getElem? (i := 3) rfl) rfl
theorem gw_4 : Cond.initialized "KeypadWriter$State" ∈ gx_G := gx_c1 _ (List.mem_of_getElem? (i := 4) rfl) rfl
theorem gw_5 : Cond.initialized "KeypadWriter$WrittenText" ∈ gx_G := gx_c1 _ (List.mem_of_getElem? (i := 5) rfl) rfl
theorem gw_6 : Cond.initialized "KeypadWriter$SavedStates" ∈ gx_G := gx_c1 _ (List.mem_of_getElem? (i := 6) rfl) rfl
theorem gw_7 : Cond.initialized "KeypadWriter$Candidates" ∈ gx_G := gx_c1 _ (List.mem_of_getElem? (i := 7) rfl) rfl
theorem gw_8 : Cond.initialized "java/lang/Throwable" ∈ gx_G := gx_c1 _ (List.mem_of_getElem? (i := 8) rfl) rfl
theorem gw_9 : Cond.initialized "java/lang/Exception" ∈ gx_G := gx_c1 _ (List.mem_of_getElem? (i := 9) rfl) rfl
theorem gw_10 : Cond.initialized "java/lang/RuntimeException" ∈ gx_G := gx_c1 _ (List.mem_of_getElem? (i := 10) rfl) rfl
theorem gw_11 : Cond.initialized "java/lang/IllegalArgumentException" ∈ gx_G := gx_c1 _ (List.mem_of_getElem? (i := 11) rfl) rfl
theorem gw_12 : Cond.initialized "java/lang/IllegalStateException" ∈ gx_G := gx_c1 _ (List.mem_of_getElem? (i := 12) rfl) rfl
theorem gw_13 : Cond.initialized "KeypadWriter$Slots" ∈ gx_G := gx_c1 _ (List.mem_of_getElem? (i := 13) rfl) rfl
theorem gw_14 : Cond.initialized "KeypadWriter$Keys" ∈ gx_G := gx_c1 _ (List.mem_of_getElem? (i := 14) rfl) rfl
theorem gw_15 : Cond.initialized "java/lang/System" ∈ gx_G := gx_c1 _ (List.mem_of_getElem? (i := 15) rfl) rfl
theorem gw_16 : Cond.initialized "java/lang/IndexOutOfBoundsException" ∈ gx_G := gx_c1 _ (List.mem_of_getElem? (i := 16) rfl) rfl
theorem gw_17 : Cond.initialized "java/lang/Math" ∈ gx_G := gx_c1 _ (List.mem_of_getElem? (i := 17) rfl) rfl
theorem gw_18 : Cond.classLink "KeypadWriterLaw" 16 "KeypadWriter" ∈ gx_G := gx_c1 _ (List.mem_of_getElem? (i := 18) rfl) rfl
theorem gw_19 : Cond.instantiable "KeypadWriter" 5 ∈ gx_G := gx_c1 _ (List.mem_of_getElem? (i := 19) rfl) rfl
theorem gw_20 : Cond.methodLink "KeypadWriterLaw" 98 ⟨"KeypadWriter", "<init>", "()V"⟩ ∈ gx_G := gx_c1 _ (List.mem_of_getElem? (i := 20) rfl) rfl
theorem gw_21 : Cond.instanceMethod ⟨"KeypadWriter", "<init>", "()V"⟩ ∈ gx_G := gx_c1 _ (List.mem_of_getElem? (i := 21) rfl) rfl
theorem gw_22 : Cond.code ⟨"KeypadWriter", "<init>", "()V"⟩ prog_1_method_1_code 1 none ∈ gx_G := gx_c1 _ (List.mem_of_getElem? (i := 22) rfl) rfl
theorem gw_23 : Cond.methodLink "KeypadWriter" 1 ⟨"java/lang/Object", "<init>", "()V"⟩ ∈ gx_G := gx_c1 _ (List.mem_of_getElem? (i := 23) rfl) rfl
theorem gw_24 : Cond.instanceMethod ⟨"java/lang/Object", "<init>", "()V"⟩ ∈ gx_G := gx_c1 _ (List.mem_of_getElem? (i := 24) rfl) rfl
theorem gw_25 : Cond.code ⟨"java/lang/Object", "<init>", "()V"⟩ object_method_1_code 1 none ∈ gx_G := gx_c1 _ (List.mem_of_getElem? (i := 25) rfl) rfl
theorem gw_26 : Cond.classLink "KeypadWriter" 7 "KeypadWriter$ListText" ∈ gx_G := gx_c1 _ (List.mem_of_getElem? (i := 26) rfl) rfl
theorem gw_27 : Cond.instantiable "KeypadWriter$ListText" 3 ∈ gx_G := gx_c1 _ (List.mem_of_getElem? (i := 27) rfl) rfl
theorem gw_29 : Cond.instanceMethod ⟨"KeypadWriter$ListText", "<init>", "()V"⟩ ∈ gx_G := gx_c1 _ (List.mem_of_getElem? (i := 29) rfl) rfl
theorem gw_30 : Cond.code ⟨"KeypadWriter$ListText", "<init>", "()V"⟩ prog_4_method_1_code 1 none ∈ gx_G := gx_c1 _ (List.mem_of_getElem? (i := 30) rfl) rfl
theorem gw_31 : Cond.methodLink "KeypadWriter$ListText" 3 ⟨"java/lang/Object", "<init>", "()V"⟩ ∈ gx_G := gx_c1 _ (List.mem_of_getElem? (i := 31) rfl) rfl
theorem gw_32 : Cond.fieldLink "KeypadWriter$ListText" 9 "KeypadWriter$ListText" "bytes" "[I" ∈ gx_G := gx_c1 _ (List.mem_of_getElem? (i := 32) rfl) rfl
theorem gw_33 : Cond.fieldLink "KeypadWriter$ListText" 15 "KeypadWriter$ListText" "length" "I" ∈ gx_G := gx_c1 _ (List.mem_of_getElem? (i := 33) rfl) rfl
theorem gw_35 : Cond.fieldLink "KeypadWriter$ListText" 28 "KeypadWriter$ListText" "position" "I" ∈ gx_G := gx_c1 _ (List.mem_of_getElem? (i := 35) rfl) rfl
theorem gw_36 : Cond.laysFinal "KeypadWriter$ListText" "KeypadWriter$ListText" "bytes" "[I" ∈ gx_G := gx_c1 _ (List.mem_of_getElem? (i := 36) rfl) rfl
theorem gw_37 : Cond.soleField "KeypadWriter$ListText" "bytes" ∈ gx_G := gx_c1 _ (List.mem_of_getElem? (i := 37) rfl) rfl
theorem gw_38 : Cond.lays "KeypadWriter$ListText" "KeypadWriter$ListText" "length" "I" ∈ gx_G := gx_c1 _ (List.mem_of_getElem? (i := 38) rfl) rfl
theorem gw_39 : Cond.soleField "KeypadWriter$ListText" "length" ∈ gx_G := gx_c1 _ (List.mem_of_getElem? (i := 39) rfl) rfl
theorem gw_40 : Cond.lays "KeypadWriter$ListText" "KeypadWriter$ListText" "position" "I" ∈ gx_G := gx_c1 _ (List.mem_of_getElem? (i := 40) rfl) rfl
theorem gw_41 : Cond.soleField "KeypadWriter$ListText" "position" ∈ gx_G := gx_c1 _ (List.mem_of_getElem? (i := 41) rfl) rfl
theorem gw_42 : Cond.superclass "KeypadWriter$ListText" "java/lang/Object" ∈ gx_G := gx_c1 _ (List.mem_of_getElem? (i := 42) rfl) rfl
theorem gw_43 : Cond.arrayClass FieldType.int ∈ gx_G := gx_c1 _ (List.mem_of_getElem? (i := 43) rfl) rfl
theorem gw_44 : Cond.classLink "KeypadWriter" 16 "KeypadWriter$WordList" ∈ gx_G := gx_c1 _ (List.mem_of_getElem? (i := 44) rfl) rfl
theorem gw_45 : Cond.instantiable "KeypadWriter$WordList" 6 ∈ gx_G := gx_c1 _ (List.mem_of_getElem? (i := 45) rfl) rfl
theorem gw_47 : Cond.instanceMethod ⟨"KeypadWriter$WordList", "<init>", "()V"⟩ ∈ gx_G := gx_c1 _ (List.mem_of_getElem? (i := 47) rfl) rfl
theorem gw_48 : Cond.code ⟨"KeypadWriter$WordList", "<init>", "()V"⟩ prog_8_method_1_code 1 none ∈ gx_G := gx_c1 _ (List.mem_of_getElem? (i := 48) rfl) rfl
theorem gw_49 : Cond.methodLink "KeypadWriter$WordList" 3 ⟨"java/lang/Object", "<init>", "()V"⟩ ∈ gx_G := gx_c1 _ (List.mem_of_getElem? (i := 49) rfl) rfl
theorem gw_50 : Cond.fieldLink "KeypadWriter$WordList" 9 "KeypadWriter$WordList" "words" "[J" ∈ gx_G := gx_c1 _ (List.mem_of_getElem? (i := 50) rfl) rfl
theorem gw_51 : Cond.fieldLink "KeypadWriter$WordList" 15 "KeypadWriter$WordList" "keys" "[J" ∈ gx_G := gx_c1 _ (List.mem_of_getElem? (i := 51) rfl) rfl
theorem gw_52 : Cond.fieldLink "KeypadWriter$WordList" 18 "KeypadWriter$WordList" "counts" "[I" ∈ gx_G := gx_c1 _ (List.mem_of_getElem? (i := 52) rfl) rfl
theorem gw_53 : Cond.fieldLink "KeypadWriter$WordList" 22 "KeypadWriter$WordList" "times" "[I" ∈ gx_G := gx_c1 _ (List.mem_of_getElem? (i := 53) rfl) rfl
theorem gw_54 : Cond.fieldLink "KeypadWriter$WordList" 25 "KeypadWriter$WordList" "added" "[Z" ∈ gx_G := gx_c1 _ (List.mem_of_getElem? (i := 54) rfl) rfl
theorem gw_55 : Cond.fieldLink "KeypadWriter$WordList" 29 "KeypadWriter$WordList" "size" "I" ∈ gx_G := gx_c1 _ (List.mem_of_getElem? (i := 55) rfl) rfl
theorem gw_58 : Cond.laysFinal "KeypadWriter$WordList" "KeypadWriter$WordList" "words" "[J" ∈ gx_G := gx_c1 _ (List.mem_of_getElem? (i := 58) rfl) rfl
theorem gw_59 : Cond.soleField "KeypadWriter$WordList" "words" ∈ gx_G := gx_c1 _ (List.mem_of_getElem? (i := 59) rfl) rfl
theorem gw_60 : Cond.laysFinal "KeypadWriter$WordList" "KeypadWriter$WordList" "keys" "[J" ∈ gx_G := gx_c1 _ (List.mem_of_getElem? (i := 60) rfl) rfl
theorem gw_61 : Cond.soleField "KeypadWriter$WordList" "keys" ∈ gx_G := gx_c1 _ (List.mem_of_getElem? (i := 61) rfl) rfl
theorem gw_62 : Cond.laysFinal "KeypadWriter$WordList" "KeypadWriter$WordList" "counts" "[I" ∈ gx_G := gx_c1 _ (List.mem_of_getElem? (i := 62) rfl) rfl
theorem gw_63 : Cond.soleField "KeypadWriter$WordList" "counts" ∈ gx_G := gx_c1 _ (List.mem_of_getElem? (i := 63) rfl) rfl
theorem gw_64 : Cond.laysFinal "KeypadWriter$WordList" "KeypadWriter$WordList" "times" "[I" ∈ gx_G := gx_c1 _ (List.mem_of_getElem? (i := 64) rfl) rfl
theorem gw_65 : Cond.soleField "KeypadWriter$WordList" "times" ∈ gx_G := gx_c1 _ (List.mem_of_getElem? (i := 65) rfl) rfl
theorem gw_66 : Cond.laysFinal "KeypadWriter$WordList" "KeypadWriter$WordList" "added" "[Z" ∈ gx_G := gx_c1 _ (List.mem_of_getElem? (i := 66) rfl) rfl
theorem gw_67 : Cond.soleField "KeypadWriter$WordList" "added" ∈ gx_G := gx_c1 _ (List.mem_of_getElem? (i := 67) rfl) rfl
theorem gw_68 : Cond.lays "KeypadWriter$WordList" "KeypadWriter$WordList" "size" "I" ∈ gx_G := gx_c1 _ (List.mem_of_getElem? (i := 68) rfl) rfl
theorem gw_69 : Cond.soleField "KeypadWriter$WordList" "size" ∈ gx_G := gx_c1 _ (List.mem_of_getElem? (i := 69) rfl) rfl
theorem gw_70 : Cond.superclass "KeypadWriter$WordList" "java/lang/Object" ∈ gx_G := gx_c1 _ (List.mem_of_getElem? (i := 70) rfl) rfl
theorem gw_71 : Cond.arrayClass FieldType.long ∈ gx_G := gx_c1 _ (List.mem_of_getElem? (i := 71) rfl) rfl
theorem gw_72 : Cond.arrayClass FieldType.boolean ∈ gx_G := gx_c1 _ (List.mem_of_getElem? (i := 72) rfl) rfl
theorem gw_73 : Cond.classLink "KeypadWriter" 23 "KeypadWriter$State" ∈ gx_G := gx_c1 _ (List.mem_of_getElem? (i := 73) rfl) rfl
theorem gw_74 : Cond.instantiable "KeypadWriter$State" 10 ∈ gx_G := gx_c1 _ (List.mem_of_getElem? (i := 74) rfl) rfl
theorem gw_76 : Cond.instanceMethod ⟨"KeypadWriter$State", "<init>", "()V"⟩ ∈ gx_G := gx_c1 _ (List.mem_of_getElem? (i := 76) rfl) rfl
theorem gw_77 : Cond.code ⟨"KeypadWriter$State", "<init>", "()V"⟩ prog_7_method_1_code 1 none ∈ gx_G := gx_c1 _ (List.mem_of_getElem? (i := 77) rfl) rfl
theorem gw_78 : Cond.methodLink "KeypadWriter$State" 3 ⟨"java/lang/Object", "<init>", "()V"⟩ ∈ gx_G := gx_c1 _ (List.mem_of_getElem? (i := 78) rfl) rfl
theorem gw_79 : Cond.classLink "KeypadWriter$State" 9 "KeypadWriter$WordList" ∈ gx_G := gx_c1 _ (List.mem_of_getElem? (i := 79) rfl) rfl
theorem gw_81 : Cond.classLink "KeypadWriter$State" 18 "KeypadWriter$WrittenText" ∈ gx_G := gx_c1 _ (List.mem_of_getElem? (i := 81) rfl) rfl
theorem gw_82 : Cond.instantiable "KeypadWriter$WrittenText" 2 ∈ gx_G := gx_c1 _ (List.mem_of_getElem? (i := 82) rfl) rfl
theorem gw_84 : Cond.instanceMethod ⟨"KeypadWriter$WrittenText", "<init>", "()V"⟩ ∈ gx_G := gx_c1 _ (List.mem_of_getElem? (i := 84) rfl) rfl
theorem gw_85 : Cond.code ⟨"KeypadWriter$WrittenText", "<init>", "()V"⟩ prog_9_method_1_code 1 none ∈ gx_G := gx_c1 _ (List.mem_of_getElem? (i := 85) rfl) rfl
theorem gw_86 : Cond.methodLink "KeypadWriter$WrittenText" 3 ⟨"java/lang/Object", "<init>", "()V"⟩ ∈ gx_G := gx_c1 _ (List.mem_of_getElem? (i := 86) rfl) rfl
theorem gw_87 : Cond.fieldLink "KeypadWriter$WrittenText" 9 "KeypadWriter$WrittenText" "words" "[J" ∈ gx_G := gx_c1 _ (List.mem_of_getElem? (i := 87) rfl) rfl
theorem gw_88 : Cond.fieldLink "KeypadWriter$WrittenText" 21 "KeypadWriter$WrittenText" "size" "I" ∈ gx_G := gx_c1 _ (List.mem_of_getElem? (i := 88) rfl) rfl
theorem gw_90 : Cond.laysFinal "KeypadWriter$WrittenText" "KeypadWriter$WrittenText" "words" "[J" ∈ gx_G := gx_c1 _ (List.mem_of_getElem? (i := 90) rfl) rfl
theorem gw_91 : Cond.soleField "KeypadWriter$WrittenText" "words" ∈ gx_G := gx_c1 _ (List.mem_of_getElem? (i := 91) rfl) rfl
theorem gw_92 : Cond.lays "KeypadWriter$WrittenText" "KeypadWriter$WrittenText" "size" "I" ∈ gx_G := gx_c1 _ (List.mem_of_getElem? (i := 92) rfl) rfl
theorem gw_93 : Cond.soleField "KeypadWriter$WrittenText" "size" ∈ gx_G := gx_c1 _ (List.mem_of_getElem? (i := 93) rfl) rfl
theorem gw_94 : Cond.superclass "KeypadWriter$WrittenText" "java/lang/Object" ∈ gx_G := gx_c1 _ (List.mem_of_getElem? (i := 94) rfl) rfl
theorem gw_95 : Cond.fieldLink "KeypadWriter$State" 12 "KeypadWriter$State" "list" "LKeypadWriter$WordList;" ∈ gx_G := gx_c1 _ (List.mem_of_getElem? (i := 95) rfl) rfl
theorem gw_98 : Cond.fieldLink "KeypadWriter$State" 21 "KeypadWriter$State" "text" "LKeypadWriter$WrittenText;" ∈ gx_G := gx_c1 _ (List.mem_of_getElem? (i := 98) rfl) rfl
theorem gw_100 : Cond.fieldLink "KeypadWriter$State" 48 "KeypadWriter$State" "clock" "I" ∈ gx_G := gx_c1 _ (List.mem_of_getElem? (i := 100) rfl) rfl
theorem gw_102 : Cond.fieldLink "KeypadWriter$State" 25 "KeypadWriter$State" "ageing" "I" ∈ gx_G := gx_c1 _ (List.mem_of_getElem? (i := 102) rfl) rfl
theorem gw_104 : Cond.fieldLink "KeypadWriter$State" 51 "KeypadWriter$State" "completing" "Z" ∈ gx_G := gx_c1 _ (List.mem_of_getElem? (i := 104) rfl) rfl
theorem gw_107 : Cond.fieldLink "KeypadWriter$State" 55 "KeypadWriter$State" "tapping" "Z" ∈ gx_G := gx_c1 _ (List.mem_of_getElem? (i := 107) rfl) rfl
theorem gw_109 : Cond.fieldLink "KeypadWriter$State" 29 "KeypadWriter$State" "pending" "I" ∈ gx_G := gx_c1 _ (List.mem_of_getElem? (i := 109) rfl) rfl
theorem gw_111 : Cond.fieldLink "KeypadWriter$State" 34 "KeypadWriter$State" "present" "J" ∈ gx_G := gx_c1 _ (List.mem_of_getElem? (i := 111) rfl) rfl
theorem gw_114 : Cond.fieldLink "KeypadWriter$State" 58 "KeypadWriter$State" "chosen" "I" ∈ gx_G := gx_c1 _ (List.mem_of_getElem? (i := 114) rfl) rfl
theorem gw_116 : Cond.fieldLink "KeypadWriter$State" 38 "KeypadWriter$State" "opened" "I" ∈ gx_G := gx_c1 _ (List.mem_of_getElem? (i := 116) rfl) rfl
theorem gw_118 : Cond.laysFinal "KeypadWriter$State" "KeypadWriter$State" "list" "LKeypadWriter$WordList;" ∈ gx_G := gx_c1 _ (List.mem_of_getElem? (i := 118) rfl) rfl
theorem gw_119 : Cond.soleField "KeypadWriter$State" "list" ∈ gx_G := gx_c1 _ (List.mem_of_getElem? (i := 119) rfl) rfl
theorem gw_120 : Cond.laysFinal "KeypadWriter$State" "KeypadWriter$State" "text" "LKeypadWriter$WrittenText;" ∈ gx_G := gx_c1 _ (List.mem_of_getElem? (i := 120) rfl) rfl
theorem gw_121 : Cond.soleField "KeypadWriter$State" "text" ∈ gx_G := gx_c1 _ (List.mem_of_getElem? (i := 121) rfl) rfl
theorem gw_122 : Cond.lays "KeypadWriter$State" "KeypadWriter$State" "clock" "I" ∈ gx_G := gx_c1 _ (List.mem_of_getElem? (i := 122) rfl) rfl
theorem gw_123 : Cond.soleField "KeypadWriter$State" "clock" ∈ gx_G := gx_c1 _ (List.mem_of_getElem? (i := 123) rfl) rfl
theorem gw_124 : Cond.lays "KeypadWriter$State" "KeypadWriter$State" "ageing" "I" ∈ gx_G := gx_c1 _ (List.mem_of_getElem? (i := 124) rfl) rfl
theorem gw_125 : Cond.soleField "KeypadWriter$State" "ageing" ∈ gx_G := gx_c1 _ (List.mem_of_getElem? (i := 125) rfl) rfl
theorem gw_126 : Cond.lays "KeypadWriter$State" "KeypadWriter$State" "completing" "Z" ∈ gx_G := gx_c1 _ (List.mem_of_getElem? (i := 126) rfl) rfl
theorem gw_127 : Cond.soleField "KeypadWriter$State" "completing" ∈ gx_G := gx_c1 _ (List.mem_of_getElem? (i := 127) rfl) rfl
theorem gw_128 : Cond.lays "KeypadWriter$State" "KeypadWriter$State" "tapping" "Z" ∈ gx_G := gx_c1 _ (List.mem_of_getElem? (i := 128) rfl) rfl
theorem gw_129 : Cond.soleField "KeypadWriter$State" "tapping" ∈ gx_G := gx_c1 _ (List.mem_of_getElem? (i := 129) rfl) rfl
theorem gw_130 : Cond.lays "KeypadWriter$State" "KeypadWriter$State" "pending" "I" ∈ gx_G := gx_c1 _ (List.mem_of_getElem? (i := 130) rfl) rfl
theorem gw_131 : Cond.soleField "KeypadWriter$State" "pending" ∈ gx_G := gx_c1 _ (List.mem_of_getElem? (i := 131) rfl) rfl
theorem gw_132 : Cond.lays "KeypadWriter$State" "KeypadWriter$State" "present" "J" ∈ gx_G := gx_c1 _ (List.mem_of_getElem? (i := 132) rfl) rfl
theorem gw_133 : Cond.soleField "KeypadWriter$State" "present" ∈ gx_G := gx_c1 _ (List.mem_of_getElem? (i := 133) rfl) rfl
theorem gw_134 : Cond.lays "KeypadWriter$State" "KeypadWriter$State" "chosen" "I" ∈ gx_G := gx_c1 _ (List.mem_of_getElem? (i := 134) rfl) rfl
theorem gw_135 : Cond.soleField "KeypadWriter$State" "chosen" ∈ gx_G := gx_c1 _ (List.mem_of_getElem? (i := 135) rfl) rfl
theorem gw_136 : Cond.lays "KeypadWriter$State" "KeypadWriter$State" "opened" "I" ∈ gx_G := gx_c1 _ (List.mem_of_getElem? (i := 136) rfl) rfl
theorem gw_137 : Cond.soleField "KeypadWriter$State" "opened" ∈ gx_G := gx_c1 _ (List.mem_of_getElem? (i := 137) rfl) rfl
theorem gw_138 : Cond.superclass "KeypadWriter$State" "java/lang/Object" ∈ gx_G := gx_c1 _ (List.mem_of_getElem? (i := 138) rfl) rfl
theorem gw_139 : Cond.classLink "KeypadWriter" 30 "KeypadWriter$SavedStates" ∈ gx_G := gx_c1 _ (List.mem_of_getElem? (i := 139) rfl) rfl
theorem gw_140 : Cond.instantiable "KeypadWriter$SavedStates" 2 ∈ gx_G := gx_c1 _ (List.mem_of_getElem? (i := 140) rfl) rfl
theorem gw_141 : Cond.methodLink "KeypadWriter" 32 ⟨"KeypadWriter$SavedStates", "<init>", "()V"⟩ ∈ gx_G := gx_c1 _ (List.mem_of_getElem? (i := 141) rfl) rfl
theorem gw_142 : Cond.instanceMethod ⟨"KeypadWriter$SavedStates", "<init>", "()V"⟩ ∈ gx_G := gx_c1 _ (List.mem_of_getElem? (i := 142) rfl) rfl
theorem gw_143 : Cond.code ⟨"KeypadWriter$SavedStates", "<init>", "()V"⟩ prog_5_method_1_code 2 none ∈ gx_G := gx_c1 _ (List.mem_of_getElem? (i := 143) rfl) rfl
theorem gw_144 : Cond.methodLink "KeypadWriter$SavedStates" 3 ⟨"java/lang/Object", "<init>", "()V"⟩ ∈ gx_G := gx_c1 _ (List.mem_of_getElem? (i := 144) rfl) rfl
theorem gw_145 : Cond.classLink "KeypadWriter$SavedStates" 9 "KeypadWriter$State" ∈ gx_G := gx_c1 _ (List.mem_of_getElem? (i := 145) rfl) rfl
theorem gw_148 : Cond.fieldLink "KeypadWriter$SavedStates" 11 "KeypadWriter$SavedStates" "states" "[LKeypadWriter$State;" ∈ gx_G := gx_c1 _ (List.mem_of_getElem? (i := 148) rfl) rfl
theorem gw_149 : Cond.fieldLink "KeypadWriter$SavedStates" 18 "KeypadWriter$SavedStates" "size" "I" ∈ gx_G := gx_c1 _ (List.mem_of_getElem? (i := 149) rfl) rfl
theorem gw_151 : Cond.laysFinal "KeypadWriter$SavedStates" "KeypadWriter$SavedStates" "states" "[LKeypadWriter$State;" ∈ gx_G := gx_c1 _ (List.mem_of_getElem? (i := 151) rfl) rfl
theorem gw_152 : Cond.soleField "KeypadWriter$SavedStates" "states" ∈ gx_G := gx_c1 _ (List.mem_of_getElem? (i := 152) rfl) rfl
theorem gw_153 : Cond.lays "KeypadWriter$SavedStates" "KeypadWriter$SavedStates" "size" "I" ∈ gx_G := gx_c1 _ (List.mem_of_getElem? (i := 153) rfl) rfl
theorem gw_154 : Cond.soleField "KeypadWriter$SavedStates" "size" ∈ gx_G := gx_c1 _ (List.mem_of_getElem? (i := 154) rfl) rfl
theorem gw_155 : Cond.superclass "KeypadWriter$SavedStates" "java/lang/Object" ∈ gx_G := gx_c1 _ (List.mem_of_getElem? (i := 155) rfl) rfl
theorem gw_156 : Cond.classLink "KeypadWriter" 37 "KeypadWriter$Candidates" ∈ gx_G := gx_c1 _ (List.mem_of_getElem? (i := 156) rfl) rfl
theorem gw_157 : Cond.instantiable "KeypadWriter$Candidates" 2 ∈ gx_G := gx_c1 _ (List.mem_of_getElem? (i := 157) rfl) rfl
theorem gw_159 : Cond.instanceMethod ⟨"KeypadWriter$Candidates", "<init>", "()V"⟩ ∈ gx_G := gx_c1 _ (List.mem_of_getElem? (i := 159) rfl) rfl
theorem gw_160 : Cond.code ⟨"KeypadWriter$Candidates", "<init>", "()V"⟩ prog_2_method_1_code 1 none ∈ gx_G := gx_c1 _ (List.mem_of_getElem? (i := 160) rfl) rfl
theorem gw_161 : Cond.methodLink "KeypadWriter$Candidates" 3 ⟨"java/lang/Object", "<init>", "()V"⟩ ∈ gx_G := gx_c1 _ (List.mem_of_getElem? (i := 161) rfl) rfl
theorem gw_162 : Cond.fieldLink "KeypadWriter$Candidates" 9 "KeypadWriter$Candidates" "order" "[I" ∈ gx_G := gx_c1 _ (List.mem_of_getElem? (i := 162) rfl) rfl
theorem gw_163 : Cond.fieldLink "KeypadWriter$Candidates" 15 "KeypadWriter$Candidates" "size" "I" ∈ gx_G := gx_c1 _ (List.mem_of_getElem? (i := 163) rfl) rfl
theorem gw_165 : Cond.laysFinal "KeypadWriter$Candidates" "KeypadWriter$Candidates" "order" "[I" ∈ gx_G := gx_c1 _ (List.mem_of_getElem? (i := 165) rfl) rfl
theorem gw_166 : Cond.soleField "KeypadWriter$Candidates" "order" ∈ gx_G := gx_c1 _ (List.mem_of_getElem? (i := 166) rfl) rfl
theorem gw_167 : Cond.lays "KeypadWriter$Candidates" "KeypadWriter$Candidates" "size" "I" ∈ gx_G := gx_c1 _ (List.mem_of_getElem? (i := 167) rfl) rfl
theorem gw_168 : Cond.soleField "KeypadWriter$Candidates" "size" ∈ gx_G := gx_c1 _ (List.mem_of_getElem? (i := 168) rfl) rfl
theorem gw_169 : Cond.superclass "KeypadWriter$Candidates" "java/lang/Object" ∈ gx_G := gx_c1 _ (List.mem_of_getElem? (i := 169) rfl) rfl
theorem gw_170 : Cond.fieldLink "KeypadWriter" 10 "KeypadWriter" "listText" "LKeypadWriter$ListText;" ∈ gx_G := gx_c1 _ (List.mem_of_getElem? (i := 170) rfl) rfl
theorem gw_171 : Cond.fieldLink "KeypadWriter" 19 "KeypadWriter" "listRead" "LKeypadWriter$WordList;" ∈ gx_G := gx_c1 _ (List.mem_of_getElem? (i := 171) rfl) rfl
theorem gw_172 : Cond.fieldLink "KeypadWriter" 26 "KeypadWriter" "state" "LKeypadWriter$State;" ∈ gx_G := gx_c1 _ (List.mem_of_getElem? (i := 172) rfl) rfl
theorem gw_173 : Cond.fieldLink "KeypadWriter" 33 "KeypadWriter" "saved" "LKeypadWriter$SavedStates;" ∈ gx_G := gx_c1 _ (List.mem_of_getElem? (i := 173) rfl) rfl
theorem gw_174 : Cond.fieldLink "KeypadWriter" 40 "KeypadWriter" "candidates" "LKeypadWriter$Candidates;" ∈ gx_G := gx_c1 _ (List.mem_of_getElem? (i := 174) rfl) rfl
theorem gw_175 : Cond.laysFinal "KeypadWriter" "KeypadWriter" "listText" "LKeypadWriter$ListText;" ∈ gx_G := gx_c1 _ (List.mem_of_getElem? (i := 175) rfl) rfl
theorem gw_176 : Cond.soleField "KeypadWriter" "listText" ∈ gx_G := gx_c1 _ (List.mem_of_getElem? (i := 176) rfl) rfl
theorem gw_177 : Cond.laysFinal "KeypadWriter" "KeypadWriter" "listRead" "LKeypadWriter$WordList;" ∈ gx_G := gx_c1 _ (List.mem_of_getElem? (i := 177) rfl) rfl
theorem gw_178 : Cond.soleField "KeypadWriter" "listRead" ∈ gx_G := gx_c1 _ (List.mem_of_getElem? (i := 178) rfl) rfl
theorem gw_179 : Cond.laysFinal "KeypadWriter" "KeypadWriter" "state" "LKeypadWriter$State;" ∈ gx_G := gx_c1 _ (List.mem_of_getElem? (i := 179) rfl) rfl
theorem gw_180 : Cond.soleField "KeypadWriter" "state" ∈ gx_G := gx_c1 _ (List.mem_of_getElem? (i := 180) rfl) rfl
theorem gw_181 : Cond.laysFinal "KeypadWriter" "KeypadWriter" "saved" "LKeypadWriter$SavedStates;" ∈ gx_G := gx_c1 _ (List.mem_of_getElem? (i := 181) rfl) rfl
theorem gw_182 : Cond.soleField "KeypadWriter" "saved" ∈ gx_G := gx_c1 _ (List.mem_of_getElem? (i := 182) rfl) rfl
theorem gw_183 : Cond.laysFinal "KeypadWriter" "KeypadWriter" "candidates" "LKeypadWriter$Candidates;" ∈ gx_G := gx_c1 _ (List.mem_of_getElem? (i := 183) rfl) rfl
theorem gw_184 : Cond.soleField "KeypadWriter" "candidates" ∈ gx_G := gx_c1 _ (List.mem_of_getElem? (i := 184) rfl) rfl
theorem gw_185 : Cond.superclass "KeypadWriter" "java/lang/Object" ∈ gx_G := gx_c1 _ (List.mem_of_getElem? (i := 185) rfl) rfl
theorem gw_186 : Cond.methodLink "KeypadWriterLaw" 45 ⟨"KeypadWriter", "mode", "(Z)I"⟩ ∈ gx_G := gx_c1 _ (List.mem_of_getElem? (i := 186) rfl) rfl
theorem gw_187 : Cond.instanceMethod ⟨"KeypadWriter", "mode", "(Z)I"⟩ ∈ gx_G := gx_c1 _ (List.mem_of_getElem? (i := 187) rfl) rfl
theorem gw_188 : Cond.selects "KeypadWriter" ⟨"KeypadWriter", "mode", "(Z)I"⟩ ⟨"KeypadWriter", "mode", "(Z)I"⟩ ∈ gx_G := gx_c1 _ (List.mem_of_getElem? (i := 188) rfl) rfl
theorem gw_189 : Cond.code ⟨"KeypadWriter", "mode", "(Z)I"⟩ prog_1_method_10_code 2 (Option.some FieldType.int) ∈ gx_G := gx_c1 _ (List.mem_of_getElem? (i := 189) rfl) rfl
theorem gw_190 : Cond.methodLink "KeypadWriter" 75 ⟨"KeypadWriter$SavedStates", "push", "(LKeypadWriter$State;)V"⟩ ∈ gx_G := gx_c1 _ (List.mem_of_getElem? (i := 190) rfl) rfl
theorem gw_191 : Cond.instanceMethod ⟨"KeypadWriter$SavedStates", "push", "(LKeypadWriter$State;)V"⟩ ∈ gx_G := gx_c1 _ (List.mem_of_getElem? (i := 191) rfl) rfl
theorem gw_192 : Cond.selects "KeypadWriter$SavedStates" ⟨"KeypadWriter$SavedStates", "push", "(LKeypadWriter$State;)V"⟩ ⟨"KeypadWriter$SavedStates", "push", "(LKeypadWriter$State;)V"⟩ ∈ gx_G := gx_c1 _ (List.mem_of_getElem? (i := 192) rfl) rfl
theorem gw_193 : Cond.code ⟨"KeypadWriter$SavedStates", "push", "(LKeypadWriter$State;)V"⟩ prog_5_method_2_code 3 none ∈ gx_G := gx_c1 _ (List.mem_of_getElem? (i := 193) rfl) rfl
theorem gw_194 : Cond.methodLink "KeypadWriter$SavedStates" 22 ⟨"KeypadWriter$SavedStates", "dropOldest", "()V"⟩ ∈ gx_G := gx_c1 _ (List.mem_of_getElem? (i := 194) rfl) rfl
theorem gw_196 : Cond.instanceMethod ⟨"KeypadWriter$SavedStates", "dropOldest", "()V"⟩ ∈ gx_G := gx_c1 _ (List.mem_of_getElem? (i := 196) rfl) rfl
theorem gw_197 : Cond.code ⟨"KeypadWriter$SavedStates", "dropOldest", "()V"⟩ prog_5_method_5_code 3 none ∈ gx_G := gx_c1 _ (List.mem_of_getElem? (i := 197) rfl) rfl
theorem gw_198 : Cond.methodLink "KeypadWriter$SavedStates" 25 ⟨"KeypadWriter$SavedStates", "stateAt", "(I)LKeypadWriter$State;"⟩ ∈ gx_G := gx_c1 _ (List.mem_of_getElem? (i := 198) rfl) rfl
theorem gw_200 : Cond.instanceMethod ⟨"KeypadWriter$SavedStates", "stateAt", "(I)LKeypadWriter$State;"⟩ ∈ gx_G := gx_c1 _ (List.mem_of_getElem? (i := 200) rfl) rfl
theorem gw_201 : Cond.code ⟨"KeypadWriter$SavedStates", "stateAt", "(I)LKeypadWriter$State;"⟩ prog_5_method_4_code 2 (Option.some (FieldType.object "KeypadWriter$State")) ∈ gx_G := gx_c1 _ (List.mem_of_getElem? (i := 201) rfl) rfl
theorem gw_202 : Cond.methodLink "KeypadWriter$SavedStates" 29 ⟨"KeypadWriter$State", "copyFrom", "(LKeypadWriter$State;)V"⟩ ∈ gx_G := gx_c1 _ (List.mem_of_getElem? (i := 202) rfl) rfl
theorem gw_203 : Cond.instanceMethod ⟨"KeypadWriter$State", "copyFrom", "(LKeypadWriter$State;)V"⟩ ∈ gx_G := gx_c1 _ (List.mem_of_getElem? (i := 203) rfl) rfl
theorem gw_204 : Cond.selects "KeypadWriter$State" ⟨"KeypadWriter$State", "copyFrom", "(LKeypadWriter$State;)V"⟩ ⟨"KeypadWriter$State", "copyFrom", "(LKeypadWriter$State;)V"⟩ ∈ gx_G := gx_c1 _ (List.mem_of_getElem? (i := 204) rfl) rfl
theorem gw_205 : Cond.code ⟨"KeypadWriter$State", "copyFrom", "(LKeypadWriter$State;)V"⟩ prog_7_method_2_code 2 none ∈ gx_G := gx_c1 _ (List.mem_of_getElem? (i := 205) rfl) rfl
theorem gw_206 : Cond.methodLink "KeypadWriter$State" 41 ⟨"KeypadWriter$WordList", "copyFrom", "(LKeypadWriter$WordList;)V"⟩ ∈ gx_G := gx_c1 _ (List.mem_of_getElem? (i := 206) rfl) rfl
theorem gw_207 : Cond.instanceMethod ⟨"KeypadWriter$WordList", "copyFrom", "(LKeypadWriter$WordList;)V"⟩ ∈ gx_G := gx_c1 _ (List.mem_of_getElem? (i := 207) rfl) rfl
theorem gw_208 : Cond.selects "KeypadWriter$WordList" ⟨"KeypadWriter$WordList", "copyFrom", "(LKeypadWriter$WordList;)V"⟩ ⟨"KeypadWriter$WordList", "copyFrom", "(LKeypadWriter$WordList;)V"⟩ ∈ gx_G := gx_c1 _ (List.mem_of_getElem? (i := 208) rfl) rfl
theorem gw_209 : Cond.code ⟨"KeypadWriter$WordList", "copyFrom", "(LKeypadWriter$WordList;)V"⟩ prog_8_method_3_code 3 none ∈ gx_G := gx_c1 _ (List.mem_of_getElem? (i := 209) rfl) rfl
theorem gw_210 : Cond.methodLink "KeypadWriter$WordList" 33 ⟨"java/lang/System", "arraycopy", "(Ljava/lang/Object;ILjava/lang/Object;II)V"⟩ ∈ gx_G := gx_c1 _ (List.mem_of_getElem? (i := 210) rfl) rfl
theorem gw_211 : Cond.static ⟨"java/lang/System", "arraycopy", "(Ljava/lang/Object;ILjava/lang/Object;II)V"⟩ ∈ gx_G := gx_c1 _ (List.mem_of_getElem? (i := 211) rfl) rfl
theorem gw_212 : Cond.native ⟨"java/lang/System", "arraycopy", "(Ljava/lang/Object;ILjava/lang/Object;II)V"⟩ ∈ gx_G := gx_c1 _ (List.mem_of_getElem? (i := 212) rfl) rfl
theorem gw_213 : Cond.methodLink "KeypadWriter$State" 45 ⟨"KeypadWriter$WrittenText", "copyFrom", "(LKeypadWriter$WrittenText;)V"⟩ ∈ gx_G := gx_c1 _ (List.mem_of_getElem? (i := 213) rfl) rfl
theorem gw_214 : Cond.instanceMethod ⟨"KeypadWriter$WrittenText", "copyFrom", "(LKeypadWriter$WrittenText;)V"⟩ ∈ gx_G := gx_c1 _ (List.mem_of_getElem? (i := 214) rfl) rfl
theorem gw_215 : Cond.selects "KeypadWriter$WrittenText" ⟨"KeypadWriter$WrittenText", "copyFrom", "(LKeypadWriter$WrittenText;)V"⟩ ⟨"KeypadWriter$WrittenText", "copyFrom", "(LKeypadWriter$WrittenText;)V"⟩ ∈ gx_G := gx_c1 _ (List.mem_of_getElem? (i := 215) rfl) rfl
theorem gw_216 : Cond.code ⟨"KeypadWriter$WrittenText", "copyFrom", "(LKeypadWriter$WrittenText;)V"⟩ prog_9_method_2_code 2 none ∈ gx_G := gx_c1 _ (List.mem_of_getElem? (i := 216) rfl) rfl
theorem gw_217 : Cond.methodLink "KeypadWriter$WrittenText" 15 ⟨"java/lang/System", "arraycopy", "(Ljava/lang/Object;ILjava/lang/Object;II)V"⟩ ∈ gx_G := gx_c1 _ (List.mem_of_getElem? (i := 217) rfl) rfl
theorem gw_218 : Cond.methodLink "KeypadWriter" 153 ⟨"KeypadWriter", "displayed", "()J"⟩ ∈ gx_G := gx_c1 _ (List.mem_of_getElem? (i := 218) rfl) rfl
theorem gw_220 : Cond.instanceMethod ⟨"KeypadWriter", "displayed", "()J"⟩ ∈ gx_G := gx_c1 _ (List.mem_of_getElem? (i := 220) rfl) rfl
theorem gw_221 : Cond.code ⟨"KeypadWriter", "displayed", "()J"⟩ prog_1_method_32_code 1 (Option.some FieldType.long) ∈ gx_G := gx_c1 _ (List.mem_of_getElem? (i := 221) rfl) rfl
theorem gw_222 : Cond.methodLink "KeypadWriter" 168 ⟨"KeypadWriter$Candidates", "find", "(LKeypadWriter$State;)V"⟩ ∈ gx_G := gx_c1 _ (List.mem_of_getElem? (i := 222) rfl) rfl
theorem gw_223 : Cond.instanceMethod ⟨"KeypadWriter$Candidates", "find", "(LKeypadWriter$State;)V"⟩ ∈ gx_G := gx_c1 _ (List.mem_of_getElem? (i := 223) rfl) rfl
theorem gw_224 : Cond.selects "KeypadWriter$Candidates" ⟨"KeypadWriter$Candidates", "find", "(LKeypadWriter$State;)V"⟩ ⟨"KeypadWriter$Candidates", "find", "(LKeypadWriter$State;)V"⟩ ∈ gx_G := gx_c1 _ (List.mem_of_getElem? (i := 224) rfl) rfl
theorem gw_225 : Cond.code ⟨"KeypadWriter$Candidates", "find", "(LKeypadWriter$State;)V"⟩ prog_2_method_2_code 6 none ∈ gx_G := gx_c1 _ (List.mem_of_getElem? (i := 225) rfl) rfl
theorem gw_226 : Cond.methodLink "KeypadWriter$Candidates" 19 ⟨"KeypadWriter$State", "places", "()I"⟩ ∈ gx_G := gx_c1 _ (List.mem_of_getElem? (i := 226) rfl) rfl
theorem gw_227 : Cond.instanceMethod ⟨"KeypadWriter$State", "places", "()I"⟩ ∈ gx_G := gx_c1 _ (List.mem_of_getElem? (i := 227) rfl) rfl
theorem gw_228 : Cond.selects "KeypadWriter$State" ⟨"KeypadWriter$State", "places", "()I"⟩ ⟨"KeypadWriter$State", "places", "()I"⟩ ∈ gx_G := gx_c1 _ (List.mem_of_getElem? (i := 228) rfl) rfl
theorem gw_229 : Cond.code ⟨"KeypadWriter$State", "places", "()I"⟩ prog_7_method_3_code 1 (Option.some FieldType.int) ∈ gx_G := gx_c1 _ (List.mem_of_getElem? (i := 229) rfl) rfl
theorem gw_230 : Cond.methodLink "KeypadWriter$State" 61 ⟨"KeypadWriter$Slots", "lengthOf", "(J)I"⟩ ∈ gx_G := gx_c1 _ (List.mem_of_getElem? (i := 230) rfl) rfl
theorem gw_231 : Cond.static ⟨"KeypadWriter$Slots", "lengthOf", "(J)I"⟩ ∈ gx_G := gx_c1 _ (List.mem_of_getElem? (i := 231) rfl) rfl
theorem gw_232 : Cond.code ⟨"KeypadWriter$Slots", "lengthOf", "(J)I"⟩ prog_6_method_10_code 3 (Option.some FieldType.int) ∈ gx_G := gx_c1 _ (List.mem_of_getElem? (i := 232) rfl) rfl
theorem gw_233 : Cond.methodLink "KeypadWriter$Slots" 13 ⟨"KeypadWriter$Slots", "codeAt", "(JI)I"⟩ ∈ gx_G := gx_c1 _ (List.mem_of_getElem? (i := 233) rfl) rfl
theorem gw_234 : Cond.static ⟨"KeypadWriter$Slots", "codeAt", "(JI)I"⟩ ∈ gx_G := gx_c1 _ (List.mem_of_getElem? (i := 234) rfl) rfl
theorem gw_235 : Cond.code ⟨"KeypadWriter$Slots", "codeAt", "(JI)I"⟩ prog_6_method_7_code 3 (Option.some FieldType.int) ∈ gx_G := gx_c1 _ (List.mem_of_getElem? (i := 235) rfl) rfl
theorem gw_236 : Cond.constantLong "KeypadWriter$Slots" 11 (63 : Int64) ∈ gx_G := gx_c1 _ (List.mem_of_getElem? (i := 236) rfl) rfl
theorem gw_237 : Cond.methodLink "KeypadWriter$Candidates" 32 ⟨"KeypadWriter$WordList", "wordAt", "(I)J"⟩ ∈ gx_G := gx_c1 _ (List.mem_of_getElem? (i := 237) rfl) rfl
theorem gw_238 : Cond.instanceMethod ⟨"KeypadWriter$WordList", "wordAt", "(I)J"⟩ ∈ gx_G := gx_c1 _ (List.mem_of_getElem? (i := 238) rfl) rfl
theorem gw_239 : Cond.selects "KeypadWriter$WordList" ⟨"KeypadWriter$WordList", "wordAt", "(I)J"⟩ ⟨"KeypadWriter$WordList", "wordAt", "(I)J"⟩ ∈ gx_G := gx_c1 _ (List.mem_of_getElem? (i := 239) rfl) rfl
theorem gw_240 : Cond.code ⟨"KeypadWriter$WordList", "wordAt", "(I)J"⟩ prog_8_method_6_code 2 (Option.some FieldType.long) ∈ gx_G := gx_c2 _ (List.mem_of_getElem? (i := 0) rfl) rfl
theorem gw_241 : Cond.methodLink "KeypadWriter$WordList" 39 ⟨"KeypadWriter$WordList", "has", "(I)Z"⟩ ∈ gx_G := gx_c2 _ (List.mem_of_getElem? (i := 1) rfl) rfl
theorem gw_242 : Cond.instanceMethod ⟨"KeypadWriter$WordList", "has", "(I)Z"⟩ ∈ gx_G := gx_c2 _ (List.mem_of_getElem? (i := 2) rfl) rfl
theorem gw_243 : Cond.selects "KeypadWriter$WordList" ⟨"KeypadWriter$WordList", "has", "(I)Z"⟩ ⟨"KeypadWriter$WordList", "has", "(I)Z"⟩ ∈ gx_G := gx_c2 _ (List.mem_of_getElem? (i := 3) rfl) rfl
theorem gw_244 : Cond.code ⟨"KeypadWriter$WordList", "has", "(I)Z"⟩ prog_8_method_4_code 2 (Option.some FieldType.boolean) ∈ gx_G := gx_c2 _ (List.mem_of_getElem? (i := 4) rfl) rfl
theorem gw_245 : Cond.methodLink "KeypadWriter$Candidates" 36 ⟨"KeypadWriter$Slots", "has", "(JI)Z"⟩ ∈ gx_G := gx_c2 _ (List.mem_of_getElem? (i := 5) rfl) rfl
theorem gw_246 : Cond.static ⟨"KeypadWriter$Slots", "has", "(JI)Z"⟩ ∈ gx_G := gx_c2 _ (List.mem_of_getElem? (i := 6) rfl) rfl
theorem gw_247 : Cond.code ⟨"KeypadWriter$Slots", "has", "(JI)Z"⟩ prog_6_method_9_code 3 (Option.some FieldType.boolean) ∈ gx_G := gx_c2 _ (List.mem_of_getElem? (i := 7) rfl) rfl
theorem gw_248 : Cond.methodLink "KeypadWriter$Candidates" 50 ⟨"KeypadWriter$WordList", "beginsWith", "(IJ)Z"⟩ ∈ gx_G := gx_c2 _ (List.mem_of_getElem? (i := 8) rfl) rfl
theorem gw_249 : Cond.instanceMethod ⟨"KeypadWriter$WordList", "beginsWith", "(IJ)Z"⟩ ∈ gx_G := gx_c2 _ (List.mem_of_getElem? (i := 9) rfl) rfl
theorem gw_250 : Cond.selects "KeypadWriter$WordList" ⟨"KeypadWriter$WordList", "beginsWith", "(IJ)Z"⟩ ⟨"KeypadWriter$WordList", "beginsWith", "(IJ)Z"⟩ ∈ gx_G := gx_c2 _ (List.mem_of_getElem? (i := 10) rfl) rfl
theorem gw_251 : Cond.code ⟨"KeypadWriter$WordList", "beginsWith", "(IJ)Z"⟩ prog_8_method_15_code 10 (Option.some FieldType.boolean) ∈ gx_G := gx_c2 _ (List.mem_of_getElem? (i := 11) rfl) rfl
theorem gw_252 : Cond.methodLink "KeypadWriter$WordList" 45 ⟨"KeypadWriter$WordList", "wordAt", "(I)J"⟩ ∈ gx_G := gx_c2 _ (List.mem_of_getElem? (i := 12) rfl) rfl
theorem gw_253 : Cond.methodLink "KeypadWriter$WordList" 70 ⟨"KeypadWriter$WordList", "keysAt", "(I)J"⟩ ∈ gx_G := gx_c2 _ (List.mem_of_getElem? (i := 13) rfl) rfl
theorem gw_254 : Cond.instanceMethod ⟨"KeypadWriter$WordList", "keysAt", "(I)J"⟩ ∈ gx_G := gx_c2 _ (List.mem_of_getElem? (i := 14) rfl) rfl
theorem gw_255 : Cond.selects "KeypadWriter$WordList" ⟨"KeypadWriter$WordList", "keysAt", "(I)J"⟩ ⟨"KeypadWriter$WordList", "keysAt", "(I)J"⟩ ∈ gx_G := gx_c2 _ (List.mem_of_getElem? (i := 15) rfl) rfl
theorem gw_256 : Cond.code ⟨"KeypadWriter$WordList", "keysAt", "(I)J"⟩ prog_8_method_7_code 2 (Option.some FieldType.long) ∈ gx_G := gx_c2 _ (List.mem_of_getElem? (i := 16) rfl) rfl
theorem gw_257 : Cond.methodLink "KeypadWriter$WordList" 73 ⟨"KeypadWriter$Slots", "codeAt", "(JI)I"⟩ ∈ gx_G := gx_c2 _ (List.mem_of_getElem? (i := 17) rfl) rfl
theorem gw_258 : Cond.methodLink "KeypadWriter$Candidates" 54 ⟨"KeypadWriter$Candidates", "insert", "(LKeypadWriter$WordList;II)V"⟩ ∈ gx_G := gx_c2 _ (List.mem_of_getElem? (i := 18) rfl) rfl
theorem gw_260 : Cond.instanceMethod ⟨"KeypadWriter$Candidates", "insert", "(LKeypadWriter$WordList;II)V"⟩ ∈ gx_G := gx_c2 _ (List.mem_of_getElem? (i := 20) rfl) rfl
theorem gw_261 : Cond.code ⟨"KeypadWriter$Candidates", "insert", "(LKeypadWriter$WordList;II)V"⟩ prog_2_method_4_code 5 none ∈ gx_G := gx_c2 _ (List.mem_of_getElem? (i := 21) rfl) rfl
theorem gw_262 : Cond.methodLink "KeypadWriter$Candidates" 58 ⟨"KeypadWriter$Candidates", "comesBefore", "(LKeypadWriter$WordList;III)Z"⟩ ∈ gx_G := gx_c2 _ (List.mem_of_getElem? (i := 22) rfl) rfl
theorem gw_263 : Cond.static ⟨"KeypadWriter$Candidates", "comesBefore", "(LKeypadWriter$WordList;III)Z"⟩ ∈ gx_G := gx_c2 _ (List.mem_of_getElem? (i := 23) rfl) rfl
theorem gw_264 : Cond.code ⟨"KeypadWriter$Candidates", "comesBefore", "(LKeypadWriter$WordList;III)Z"⟩ prog_2_method_6_code 5 (Option.some FieldType.boolean) ∈ gx_G := gx_c2 _ (List.mem_of_getElem? (i := 24) rfl) rfl
theorem gw_265 : Cond.methodLink "KeypadWriter$Candidates" 66 ⟨"KeypadWriter$WordList", "ranksBefore", "(II)Z"⟩ ∈ gx_G := gx_c2 _ (List.mem_of_getElem? (i := 25) rfl) rfl
theorem gw_266 : Cond.instanceMethod ⟨"KeypadWriter$WordList", "ranksBefore", "(II)Z"⟩ ∈ gx_G := gx_c2 _ (List.mem_of_getElem? (i := 26) rfl) rfl
theorem gw_267 : Cond.selects "KeypadWriter$WordList" ⟨"KeypadWriter$WordList", "ranksBefore", "(II)Z"⟩ ⟨"KeypadWriter$WordList", "ranksBefore", "(II)Z"⟩ ∈ gx_G := gx_c2 _ (List.mem_of_getElem? (i := 27) rfl) rfl
theorem gw_268 : Cond.code ⟨"KeypadWriter$WordList", "ranksBefore", "(II)Z"⟩ prog_8_method_13_code 3 (Option.some FieldType.boolean) ∈ gx_G := gx_c2 _ (List.mem_of_getElem? (i := 28) rfl) rfl
theorem gw_269 : Cond.methodLink "KeypadWriter" 218 ⟨"KeypadWriter$Candidates", "wordAt", "(I)I"⟩ ∈ gx_G := gx_c2 _ (List.mem_of_getElem? (i := 29) rfl) rfl
theorem gw_270 : Cond.instanceMethod ⟨"KeypadWriter$Candidates", "wordAt", "(I)I"⟩ ∈ gx_G := gx_c2 _ (List.mem_of_getElem? (i := 30) rfl) rfl
theorem gw_271 : Cond.selects "KeypadWriter$Candidates" ⟨"KeypadWriter$Candidates", "wordAt", "(I)I"⟩ ⟨"KeypadWriter$Candidates", "wordAt", "(I)I"⟩ ∈ gx_G := gx_c2 _ (List.mem_of_getElem? (i := 31) rfl) rfl
theorem gw_272 : Cond.code ⟨"KeypadWriter$Candidates", "wordAt", "(I)I"⟩ prog_2_method_3_code 2 (Option.some FieldType.int) ∈ gx_G := gx_c2 _ (List.mem_of_getElem? (i := 32) rfl) rfl
theorem gw_273 : Cond.methodLink "KeypadWriter" 116 ⟨"KeypadWriter$WordList", "wordAt", "(I)J"⟩ ∈ gx_G := gx_c2 _ (List.mem_of_getElem? (i := 33) rfl) rfl
theorem gw_274 : Cond.methodLink "KeypadWriter" 283 ⟨"KeypadWriter$Slots", "firstLetters", "(J)J"⟩ ∈ gx_G := gx_c2 _ (List.mem_of_getElem? (i := 34) rfl) rfl
theorem gw_275 : Cond.static ⟨"KeypadWriter$Slots", "firstLetters", "(J)J"⟩ ∈ gx_G := gx_c2 _ (List.mem_of_getElem? (i := 35) rfl) rfl
theorem gw_276 : Cond.code ⟨"KeypadWriter$Slots", "firstLetters", "(J)J"⟩ prog_6_method_14_code 8 (Option.some FieldType.long) ∈ gx_G := gx_c2 _ (List.mem_of_getElem? (i := 36) rfl) rfl
theorem gw_277 : Cond.methodLink "KeypadWriter$Slots" 27 ⟨"KeypadWriter$Slots", "lengthOf", "(J)I"⟩ ∈ gx_G := gx_c2 _ (List.mem_of_getElem? (i := 37) rfl) rfl
theorem gw_278 : Cond.methodLink "KeypadWriter$Slots" 42 ⟨"KeypadWriter$Slots", "isLetter", "(I)Z"⟩ ∈ gx_G := gx_c2 _ (List.mem_of_getElem? (i := 38) rfl) rfl
theorem gw_279 : Cond.static ⟨"KeypadWriter$Slots", "isLetter", "(I)Z"⟩ ∈ gx_G := gx_c2 _ (List.mem_of_getElem? (i := 39) rfl) rfl
theorem gw_280 : Cond.code ⟨"KeypadWriter$Slots", "isLetter", "(I)Z"⟩ prog_6_method_4_code 1 (Option.some FieldType.boolean) ∈ gx_G := gx_c2 _ (List.mem_of_getElem? (i := 40) rfl) rfl
theorem gw_281 : Cond.methodLink "KeypadWriter$Slots" 46 ⟨"KeypadWriter$Slots", "keyOf", "(I)I"⟩ ∈ gx_G := gx_c2 _ (List.mem_of_getElem? (i := 41) rfl) rfl
theorem gw_282 : Cond.static ⟨"KeypadWriter$Slots", "keyOf", "(I)I"⟩ ∈ gx_G := gx_c2 _ (List.mem_of_getElem? (i := 42) rfl) rfl
theorem gw_283 : Cond.code ⟨"KeypadWriter$Slots", "keyOf", "(I)I"⟩ prog_6_method_6_code 1 (Option.some FieldType.int) ∈ gx_G := gx_c2 _ (List.mem_of_getElem? (i := 43) rfl) rfl
theorem gw_284 : Cond.methodLink "KeypadWriter$Slots" 49 ⟨"KeypadWriter$Keys", "firstLetter", "(I)I"⟩ ∈ gx_G := gx_c2 _ (List.mem_of_getElem? (i := 44) rfl) rfl
theorem gw_285 : Cond.static ⟨"KeypadWriter$Keys", "firstLetter", "(I)I"⟩ ∈ gx_G := gx_c2 _ (List.mem_of_getElem? (i := 45) rfl) rfl
theorem gw_286 : Cond.code ⟨"KeypadWriter$Keys", "firstLetter", "(I)I"⟩ prog_3_method_4_code 1 (Option.some FieldType.int) ∈ gx_G := gx_c2 _ (List.mem_of_getElem? (i := 46) rfl) rfl
theorem gw_287 : Cond.methodLink "KeypadWriter$Keys" 15 ⟨"KeypadWriter$Keys", "isKey", "(I)Z"⟩ ∈ gx_G := gx_c2 _ (List.mem_of_getElem? (i := 47) rfl) rfl
theorem gw_288 : Cond.static ⟨"KeypadWriter$Keys", "isKey", "(I)Z"⟩ ∈ gx_G := gx_c2 _ (List.mem_of_getElem? (i := 48) rfl) rfl
theorem gw_289 : Cond.code ⟨"KeypadWriter$Keys", "isKey", "(I)Z"⟩ prog_3_method_2_code 1 (Option.some FieldType.boolean) ∈ gx_G := gx_c2 _ (List.mem_of_getElem? (i := 49) rfl) rfl
theorem gw_290 : Cond.fieldLink "KeypadWriter$Keys" 19 "KeypadWriter$Keys" "FIRST_LETTER_FROM_KEY_2" "[I" ∈ gx_G := gx_c2 _ (List.mem_of_getElem? (i := 50) rfl) rfl
theorem gw_292 : Cond.methodLink "KeypadWriter$Slots" 52 ⟨"KeypadWriter$Slots", "codeOfLetter", "(I)I"⟩ ∈ gx_G := gx_c2 _ (List.mem_of_getElem? (i := 52) rfl) rfl
theorem gw_293 : Cond.static ⟨"KeypadWriter$Slots", "codeOfLetter", "(I)I"⟩ ∈ gx_G := gx_c2 _ (List.mem_of_getElem? (i := 53) rfl) rfl
theorem gw_294 : Cond.code ⟨"KeypadWriter$Slots", "codeOfLetter", "(I)I"⟩ prog_6_method_2_code 1 (Option.some FieldType.int) ∈ gx_G := gx_c2 _ (List.mem_of_getElem? (i := 54) rfl) rfl
theorem gw_295 : Cond.methodLink "KeypadWriter$Slots" 23 ⟨"KeypadWriter$Slots", "with", "(JII)J"⟩ ∈ gx_G := gx_c2 _ (List.mem_of_getElem? (i := 55) rfl) rfl
theorem gw_296 : Cond.static ⟨"KeypadWriter$Slots", "with", "(JII)J"⟩ ∈ gx_G := gx_c2 _ (List.mem_of_getElem? (i := 56) rfl) rfl
theorem gw_297 : Cond.code ⟨"KeypadWriter$Slots", "with", "(JII)J"⟩ prog_6_method_11_code 5 (Option.some FieldType.long) ∈ gx_G := gx_c2 _ (List.mem_of_getElem? (i := 57) rfl) rfl
theorem gw_298 : Cond.constantLong "KeypadWriter$Slots" 21 (-1 : Int64) ∈ gx_G := gx_c2 _ (List.mem_of_getElem? (i := 58) rfl) rfl
theorem gw_299 : Cond.methodLink "KeypadWriter" 141 ⟨"KeypadWriter$State", "places", "()I"⟩ ∈ gx_G := gx_c2 _ (List.mem_of_getElem? (i := 59) rfl) rfl
theorem gw_300 : Cond.methodLink "KeypadWriter" 157 ⟨"KeypadWriter$Slots", "firstOf", "(JI)J"⟩ ∈ gx_G := gx_c2 _ (List.mem_of_getElem? (i := 60) rfl) rfl
theorem gw_301 : Cond.static ⟨"KeypadWriter$Slots", "firstOf", "(JI)J"⟩ ∈ gx_G := gx_c2 _ (List.mem_of_getElem? (i := 61) rfl) rfl
theorem gw_302 : Cond.code ⟨"KeypadWriter$Slots", "firstOf", "(JI)J"⟩ prog_6_method_12_code 6 (Option.some FieldType.long) ∈ gx_G := gx_c2 _ (List.mem_of_getElem? (i := 62) rfl) rfl
theorem gw_303 : Cond.methodLink "KeypadWriterLaw" 33 ⟨"KeypadWriter", "setting", "(I)I"⟩ ∈ gx_G := gx_c2 _ (List.mem_of_getElem? (i := 63) rfl) rfl
theorem gw_304 : Cond.instanceMethod ⟨"KeypadWriter", "setting", "(I)I"⟩ ∈ gx_G := gx_c2 _ (List.mem_of_getElem? (i := 64) rfl) rfl
theorem gw_305 : Cond.selects "KeypadWriter" ⟨"KeypadWriter", "setting", "(I)I"⟩ ⟨"KeypadWriter", "setting", "(I)I"⟩ ∈ gx_G := gx_c2 _ (List.mem_of_getElem? (i := 65) rfl) rfl
theorem gw_306 : Cond.code ⟨"KeypadWriter", "setting", "(I)I"⟩ prog_1_method_15_code 2 (Option.some FieldType.int) ∈ gx_G := gx_c2 _ (List.mem_of_getElem? (i := 66) rfl) rfl
theorem gw_307 : Cond.classLink "KeypadWriter" 44 "java/lang/IllegalArgumentException" ∈ gx_G := gx_c2 _ (List.mem_of_getElem? (i := 67) rfl) rfl
theorem gw_308 : Cond.instantiable "java/lang/IllegalArgumentException" 6 ∈ gx_G := gx_c2 _ (List.mem_of_getElem? (i := 68) rfl) rfl
theorem gw_316 : Cond.selects "java/lang/IllegalArgumentException" ⟨"java/lang/Throwable", "fillInStackTrace", "(I)Ljava/lang/Throwable;"⟩ ⟨"java/lang/Throwable", "fillInStackTrace", "(I)Ljava/lang/Throwable;"⟩ ∈ gx_G := gx_c2 _ (List.mem_of_getElem? (i := 76) rfl) rfl
theorem gw_317 : Cond.selects "java/lang/IllegalArgumentException" ⟨"java/lang/Throwable", "fillInStackTrace", "()Ljava/lang/Throwable;"⟩ ⟨"java/lang/Throwable", "fillInStackTrace", "()Ljava/lang/Throwable;"⟩ ∈ gx_G := gx_c2 _ (List.mem_of_getElem? (i := 77) rfl) rfl
theorem gw_318 : Cond.lays "java/lang/IllegalArgumentException" "java/lang/Throwable" "cause" "Ljava/lang/Throwable;" ∈ gx_G := gx_c2 _ (List.mem_of_getElem? (i := 78) rfl) rfl
theorem gw_319 : Cond.lays "java/lang/Throwable" "java/lang/Throwable" "cause" "Ljava/lang/Throwable;" ∈ gx_G := gx_c2 _ (List.mem_of_getElem? (i := 79) rfl) rfl
theorem gw_320 : Cond.lays "java/lang/IllegalArgumentException" "java/lang/Throwable" "stackTrace" "[Ljava/lang/StackTraceElement;" ∈ gx_G := gx_c2 _ (List.mem_of_getElem? (i := 80) rfl) rfl
theorem gw_321 : Cond.lays "java/lang/Throwable" "java/lang/Throwable" "stackTrace" "[Ljava/lang/StackTraceElement;" ∈ gx_G := gx_c2 _ (List.mem_of_getElem? (i := 81) rfl) rfl
theorem gw_322 : Cond.lays "java/lang/IllegalArgumentException" "java/lang/Throwable" "suppressedExceptions" "Ljava/util/List;" ∈ gx_G := gx_c2 _ (List.mem_of_getElem? (i := 82) rfl) rfl
theorem gw_323 : Cond.lays "java/lang/Throwable" "java/lang/Throwable" "suppressedExceptions" "Ljava/util/List;" ∈ gx_G := gx_c2 _ (List.mem_of_getElem? (i := 83) rfl) rfl
theorem gw_324 : Cond.lays "java/lang/IllegalArgumentException" "java/lang/Throwable" "detailMessage" "Ljava/lang/String;" ∈ gx_G := gx_c2 _ (List.mem_of_getElem? (i := 84) rfl) rfl
theorem gw_325 : Cond.lays "java/lang/Throwable" "java/lang/Throwable" "detailMessage" "Ljava/lang/String;" ∈ gx_G := gx_c2 _ (List.mem_of_getElem? (i := 85) rfl) rfl
theorem gw_326 : Cond.lays "java/lang/IllegalArgumentException" "java/lang/Throwable" "backtrace" "Ljava/lang/Object;" ∈ gx_G := gx_c2 _ (List.mem_of_getElem? (i := 86) rfl) rfl
theorem gw_327 : Cond.lays "java/lang/Throwable" "java/lang/Throwable" "backtrace" "Ljava/lang/Object;" ∈ gx_G := gx_c2 _ (List.mem_of_getElem? (i := 87) rfl) rfl
theorem gw_328 : Cond.fieldLink "java/lang/Throwable" 198 "java/lang/Throwable" "backtrace" "Ljava/lang/Object;" ∈ gx_G := gx_c2 _ (List.mem_of_getElem? (i := 88) rfl) rfl
theorem gw_329 : Cond.superclass "java/lang/Throwable" "java/lang/Object" ∈ gx_G := gx_c2 _ (List.mem_of_getElem? (i := 89) rfl) rfl
theorem gw_330 : Cond.instanceMethod ⟨"java/lang/Throwable", "<init>", "()V"⟩ ∈ gx_G := gx_c2 _ (List.mem_of_getElem? (i := 90) rfl) rfl
theorem gw_331 : Cond.code ⟨"java/lang/Throwable", "<init>", "()V"⟩ prog_20_method_1_code 1 none ∈ gx_G := gx_c2 _ (List.mem_of_getElem? (i := 91) rfl) rfl
theorem gw_332 : Cond.methodLink "java/lang/Throwable" 1 ⟨"java/lang/Object", "<init>", "()V"⟩ ∈ gx_G := gx_c2 _ (List.mem_of_getElem? (i := 92) rfl) rfl
theorem gw_333 : Cond.fieldLink "java/lang/Throwable" 13 "java/lang/Throwable" "UNASSIGNED_STACK" "[Ljava/lang/StackTraceElement;" ∈ gx_G := gx_c2 _ (List.mem_of_getElem? (i := 93) rfl) rfl
theorem gw_335 : Cond.fieldLink "java/lang/Throwable" 20 "java/lang/Throwable" "SUPPRESSED_SENTINEL" "Ljava/util/List;" ∈ gx_G := gx_c2 _ (List.mem_of_getElem? (i := 95) rfl) rfl
theorem gw_337 : Cond.methodLink "java/lang/Throwable" 27 ⟨"java/lang/Throwable", "fillInStackTrace", "()Ljava/lang/Throwable;"⟩ ∈ gx_G := gx_c2 _ (List.mem_of_getElem? (i := 97) rfl) rfl
theorem gw_338 : Cond.instanceMethod ⟨"java/lang/Throwable", "fillInStackTrace", "()Ljava/lang/Throwable;"⟩ ∈ gx_G := gx_c2 _ (List.mem_of_getElem? (i := 98) rfl) rfl
theorem gw_340 : Cond.selects "java/lang/IllegalStateException" ⟨"java/lang/Throwable", "fillInStackTrace", "()Ljava/lang/Throwable;"⟩ ⟨"java/lang/Throwable", "fillInStackTrace", "()Ljava/lang/Throwable;"⟩ ∈ gx_G := gx_c2 _ (List.mem_of_getElem? (i := 100) rfl) rfl
theorem gw_341 : Cond.selects "java/lang/IndexOutOfBoundsException" ⟨"java/lang/Throwable", "fillInStackTrace", "()Ljava/lang/Throwable;"⟩ ⟨"java/lang/Throwable", "fillInStackTrace", "()Ljava/lang/Throwable;"⟩ ∈ gx_G := gx_c2 _ (List.mem_of_getElem? (i := 101) rfl) rfl
theorem gw_343 : Cond.methodLink "java/lang/Throwable" 202 ⟨"java/lang/Throwable", "fillInStackTrace", "(I)Ljava/lang/Throwable;"⟩ ∈ gx_G := gx_c2 _ (List.mem_of_getElem? (i := 103) rfl) rfl
theorem gw_345 : Cond.instanceMethod ⟨"java/lang/Throwable", "fillInStackTrace", "(I)Ljava/lang/Throwable;"⟩ ∈ gx_G := gx_c2 _ (List.mem_of_getElem? (i := 105) rfl) rfl
theorem gw_346 : Cond.instantiable "java/lang/Throwable" 6 ∈ gx_G := gx_c2 _ (List.mem_of_getElem? (i := 106) rfl) rfl
theorem gw_347 : Cond.native ⟨"java/lang/Throwable", "fillInStackTrace", "(I)Ljava/lang/Throwable;"⟩ ∈ gx_G := gx_c2 _ (List.mem_of_getElem? (i := 107) rfl) rfl
theorem gw_349 : Cond.methodLink "KeypadWriter" 48 ⟨"java/lang/IllegalArgumentException", "<init>", "(Ljava/lang/String;)V"⟩ ∈ gx_G := gx_c2 _ (List.mem_of_getElem? (i := 109) rfl) rfl
theorem gw_350 : Cond.instanceMethod ⟨"java/lang/IllegalArgumentException", "<init>", "(Ljava/lang/String;)V"⟩ ∈ gx_G := gx_c2 _ (List.mem_of_getElem? (i := 110) rfl) rfl
theorem gw_351 : Cond.code ⟨"java/lang/IllegalArgumentException", "<init>", "(Ljava/lang/String;)V"⟩ prog_13_method_2_code 2 none ∈ gx_G := gx_c2 _ (List.mem_of_getElem? (i := 111) rfl) rfl
theorem gw_352 : Cond.methodLink "java/lang/IllegalArgumentException" 7 ⟨"java/lang/RuntimeException", "<init>", "(Ljava/lang/String;)V"⟩ ∈ gx_G := gx_c2 _ (List.mem_of_getElem? (i := 112) rfl) rfl
theorem gw_353 : Cond.instanceMethod ⟨"java/lang/RuntimeException", "<init>", "(Ljava/lang/String;)V"⟩ ∈ gx_G := gx_c2 _ (List.mem_of_getElem? (i := 113) rfl) rfl
theorem gw_354 : Cond.code ⟨"java/lang/RuntimeException", "<init>", "(Ljava/lang/String;)V"⟩ prog_17_method_2_code 2 none ∈ gx_G := gx_c2 _ (List.mem_of_getElem? (i := 114) rfl) rfl
theorem gw_355 : Cond.methodLink "java/lang/RuntimeException" 7 ⟨"java/lang/Exception", "<init>", "(Ljava/lang/String;)V"⟩ ∈ gx_G := gx_c2 _ (List.mem_of_getElem? (i := 115) rfl) rfl
theorem gw_356 : Cond.instanceMethod ⟨"java/lang/Exception", "<init>", "(Ljava/lang/String;)V"⟩ ∈ gx_G := gx_c2 _ (List.mem_of_getElem? (i := 116) rfl) rfl
theorem gw_357 : Cond.code ⟨"java/lang/Exception", "<init>", "(Ljava/lang/String;)V"⟩ prog_12_method_2_code 2 none ∈ gx_G := gx_c2 _ (List.mem_of_getElem? (i := 117) rfl) rfl
theorem gw_358 : Cond.methodLink "java/lang/Exception" 7 ⟨"java/lang/Throwable", "<init>", "(Ljava/lang/String;)V"⟩ ∈ gx_G := gx_c2 _ (List.mem_of_getElem? (i := 118) rfl) rfl
theorem gw_359 : Cond.instanceMethod ⟨"java/lang/Throwable", "<init>", "(Ljava/lang/String;)V"⟩ ∈ gx_G := gx_c2 _ (List.mem_of_getElem? (i := 119) rfl) rfl
theorem gw_360 : Cond.code ⟨"java/lang/Throwable", "<init>", "(Ljava/lang/String;)V"⟩ prog_20_method_2_code 2 none ∈ gx_G := gx_c2 _ (List.mem_of_getElem? (i := 120) rfl) rfl
theorem gw_361 : Cond.fieldLink "java/lang/Throwable" 198 "java/lang/Throwable" "backtrace" "Ljava/lang/Object;" ∈ gx_G := gx_c2 _ (List.mem_of_getElem? (i := 121) rfl) rfl
theorem gw_362 : Cond.fieldLink "java/lang/Throwable" 31 "java/lang/Throwable" "detailMessage" "Ljava/lang/String;" ∈ gx_G := gx_c2 _ (List.mem_of_getElem? (i := 122) rfl) rfl
theorem gw_363 : Cond.fieldLink "java/lang/Throwable" 7 "java/lang/Throwable" "cause" "Ljava/lang/Throwable;" ∈ gx_G := gx_c2 _ (List.mem_of_getElem? (i := 123) rfl) rfl
theorem gw_364 : Cond.fieldLink "java/lang/Throwable" 17 "java/lang/Throwable" "stackTrace" "[Ljava/lang/StackTraceElement;" ∈ gx_G := gx_c2 _ (List.mem_of_getElem? (i := 124) rfl) rfl
theorem gw_365 : Cond.fieldLink "java/lang/Throwable" 24 "java/lang/Throwable" "suppressedExceptions" "Ljava/util/List;" ∈ gx_G := gx_c2 _ (List.mem_of_getElem? (i := 125) rfl) rfl
theorem gw_366 : Cond.soleField "java/lang/Throwable" "backtrace" ∈ gx_G := gx_c2 _ (List.mem_of_getElem? (i := 126) rfl) rfl
theorem gw_367 : Cond.soleField "java/lang/Throwable" "detailMessage" ∈ gx_G := gx_c2 _ (List.mem_of_getElem? (i := 127) rfl) rfl
theorem gw_368 : Cond.soleField "java/lang/Throwable" "cause" ∈ gx_G := gx_c2 _ (List.mem_of_getElem? (i := 128) rfl) rfl
theorem gw_369 : Cond.soleField "java/lang/Throwable" "stackTrace" ∈ gx_G := gx_c2 _ (List.mem_of_getElem? (i := 129) rfl) rfl
theorem gw_370 : Cond.lays "java/lang/IllegalArgumentException" "java/lang/Throwable" "depth" "I" ∈ gx_G := gx_c2 _ (List.mem_of_getElem? (i := 130) rfl) rfl
theorem gw_371 : Cond.soleField "java/lang/Throwable" "depth" ∈ gx_G := gx_c2 _ (List.mem_of_getElem? (i := 131) rfl) rfl
theorem gw_372 : Cond.soleField "java/lang/Throwable" "suppressedExceptions" ∈ gx_G := gx_c2 _ (List.mem_of_getElem? (i := 132) rfl) rfl
theorem gw_373 : Cond.superclass "java/lang/IllegalArgumentException" "java/lang/RuntimeException" ∈ gx_G := gx_c2 _ (List.mem_of_getElem? (i := 133) rfl) rfl
theorem gw_374 : Cond.arrayClass FieldType.byte ∈ gx_G := gx_c2 _ (List.mem_of_getElem? (i := 134) rfl) rfl
theorem gw_375 : Cond.methodLink "KeypadWriter" 205 ⟨"KeypadWriter", "settingOf", "(I)I"⟩ ∈ gx_G := gx_c2 _ (List.mem_of_getElem? (i := 135) rfl) rfl
theorem gw_377 : Cond.instanceMethod ⟨"KeypadWriter", "settingOf", "(I)I"⟩ ∈ gx_G := gx_c2 _ (List.mem_of_getElem? (i := 137) rfl) rfl
theorem gw_378 : Cond.code ⟨"KeypadWriter", "settingOf", "(I)I"⟩ prog_1_method_30_code 2 (Option.some FieldType.int) ∈ gx_G := gx_c2 _ (List.mem_of_getElem? (i := 138) rfl) rfl
theorem gw_379 : Cond.methodLink "KeypadWriterLaw" 119 ⟨"KeypadWriter", "undo", "()I"⟩ ∈ gx_G := gx_c2 _ (List.mem_of_getElem? (i := 139) rfl) rfl
theorem gw_380 : Cond.instanceMethod ⟨"KeypadWriter", "undo", "()I"⟩ ∈ gx_G := gx_c2 _ (List.mem_of_getElem? (i := 140) rfl) rfl
theorem gw_381 : Cond.selects "KeypadWriter" ⟨"KeypadWriter", "undo", "()I"⟩ ⟨"KeypadWriter", "undo", "()I"⟩ ∈ gx_G := gx_c2 _ (List.mem_of_getElem? (i := 141) rfl) rfl
theorem gw_382 : Cond.code ⟨"KeypadWriter", "undo", "()I"⟩ prog_1_method_25_code 1 (Option.some FieldType.int) ∈ gx_G := gx_c2 _ (List.mem_of_getElem? (i := 142) rfl) rfl
theorem gw_383 : Cond.classLink "KeypadWriter" 55 "java/lang/IllegalStateException" ∈ gx_G := gx_c2 _ (List.mem_of_getElem? (i := 143) rfl) rfl
theorem gw_384 : Cond.instantiable "java/lang/IllegalStateException" 6 ∈ gx_G := gx_c2 _ (List.mem_of_getElem? (i := 144) rfl) rfl
theorem gw_386 : Cond.selects "java/lang/IllegalStateException" ⟨"java/lang/Throwable", "fillInStackTrace", "(I)Ljava/lang/Throwable;"⟩ ⟨"java/lang/Throwable", "fillInStackTrace", "(I)Ljava/lang/Throwable;"⟩ ∈ gx_G := gx_c2 _ (List.mem_of_getElem? (i := 146) rfl) rfl
theorem gw_387 : Cond.lays "java/lang/IllegalStateException" "java/lang/Throwable" "cause" "Ljava/lang/Throwable;" ∈ gx_G := gx_c2 _ (List.mem_of_getElem? (i := 147) rfl) rfl
theorem gw_388 : Cond.lays "java/lang/IllegalStateException" "java/lang/Throwable" "stackTrace" "[Ljava/lang/StackTraceElement;" ∈ gx_G := gx_c2 _ (List.mem_of_getElem? (i := 148) rfl) rfl
theorem gw_389 : Cond.lays "java/lang/IllegalStateException" "java/lang/Throwable" "suppressedExceptions" "Ljava/util/List;" ∈ gx_G := gx_c2 _ (List.mem_of_getElem? (i := 149) rfl) rfl
theorem gw_390 : Cond.lays "java/lang/IllegalStateException" "java/lang/Throwable" "detailMessage" "Ljava/lang/String;" ∈ gx_G := gx_c2 _ (List.mem_of_getElem? (i := 150) rfl) rfl
theorem gw_391 : Cond.lays "java/lang/IllegalStateException" "java/lang/Throwable" "backtrace" "Ljava/lang/Object;" ∈ gx_G := gx_c2 _ (List.mem_of_getElem? (i := 151) rfl) rfl
theorem gw_393 : Cond.methodLink "KeypadWriter" 59 ⟨"java/lang/IllegalStateException", "<init>", "(Ljava/lang/String;)V"⟩ ∈ gx_G := gx_c2 _ (List.mem_of_getElem? (i := 153) rfl) rfl
theorem gw_394 : Cond.instanceMethod ⟨"java/lang/IllegalStateException", "<init>", "(Ljava/lang/String;)V"⟩ ∈ gx_G := gx_c2 _ (List.mem_of_getElem? (i := 154) rfl) rfl
theorem gw_395 : Cond.code ⟨"java/lang/IllegalStateException", "<init>", "(Ljava/lang/String;)V"⟩ prog_14_method_2_code 2 none ∈ gx_G := gx_c2 _ (List.mem_of_getElem? (i := 155) rfl) rfl
theorem gw_396 : Cond.methodLink "java/lang/IllegalStateException" 7 ⟨"java/lang/RuntimeException", "<init>", "(Ljava/lang/String;)V"⟩ ∈ gx_G := gx_c2 _ (List.mem_of_getElem? (i := 156) rfl) rfl
theorem gw_397 : Cond.lays "java/lang/IllegalStateException" "java/lang/Throwable" "depth" "I" ∈ gx_G := gx_c2 _ (List.mem_of_getElem? (i := 157) rfl) rfl
theorem gw_398 : Cond.superclass "java/lang/IllegalStateException" "java/lang/RuntimeException" ∈ gx_G := gx_c2 _ (List.mem_of_getElem? (i := 158) rfl) rfl
theorem gw_399 : Cond.methodLink "KeypadWriter" 251 ⟨"KeypadWriter$SavedStates", "popInto", "(LKeypadWriter$State;)V"⟩ ∈ gx_G := gx_c2 _ (List.mem_of_getElem? (i := 159) rfl) rfl
theorem gw_400 : Cond.instanceMethod ⟨"KeypadWriter$SavedStates", "popInto", "(LKeypadWriter$State;)V"⟩ ∈ gx_G := gx_c2 _ (List.mem_of_getElem? (i := 160) rfl) rfl
theorem gw_401 : Cond.selects "KeypadWriter$SavedStates" ⟨"KeypadWriter$SavedStates", "popInto", "(LKeypadWriter$State;)V"⟩ ⟨"KeypadWriter$SavedStates", "popInto", "(LKeypadWriter$State;)V"⟩ ∈ gx_G := gx_c2 _ (List.mem_of_getElem? (i := 161) rfl) rfl
theorem gw_402 : Cond.code ⟨"KeypadWriter$SavedStates", "popInto", "(LKeypadWriter$State;)V"⟩ prog_5_method_3_code 3 none ∈ gx_G := gx_c2 _ (List.mem_of_getElem? (i := 162) rfl) rfl
theorem gw_403 : Cond.methodLink "KeypadWriterLaw" 115 ⟨"KeypadWriter", "digest", "()J"⟩ ∈ gx_G := gx_c2 _ (List.mem_of_getElem? (i := 163) rfl) rfl
theorem gw_404 : Cond.instanceMethod ⟨"KeypadWriter", "digest", "()J"⟩ ∈ gx_G := gx_c2 _ (List.mem_of_getElem? (i := 164) rfl) rfl
theorem gw_405 : Cond.selects "KeypadWriter" ⟨"KeypadWriter", "digest", "()J"⟩ ⟨"KeypadWriter", "digest", "()J"⟩ ∈ gx_G := gx_c2 _ (List.mem_of_getElem? (i := 165) rfl) rfl
theorem gw_406 : Cond.code ⟨"KeypadWriter", "digest", "()J"⟩ prog_1_method_26_code 7 (Option.some FieldType.long) ∈ gx_G := gx_c2 _ (List.mem_of_getElem? (i := 166) rfl) rfl
theorem gw_407 : Cond.constantLong "KeypadWriter" 254 (3271 : Int64) ∈ gx_G := gx_c2 _ (List.mem_of_getElem? (i := 167) rfl) rfl
theorem gw_408 : Cond.methodLink "KeypadWriter" 256 ⟨"KeypadWriter", "mixed", "(JI)J"⟩ ∈ gx_G := gx_c2 _ (List.mem_of_getElem? (i := 168) rfl) rfl
theorem gw_409 : Cond.static ⟨"KeypadWriter", "mixed", "(JI)J"⟩ ∈ gx_G := gx_c2 _ (List.mem_of_getElem? (i := 169) rfl) rfl
theorem gw_410 : Cond.code ⟨"KeypadWriter", "mixed", "(JI)J"⟩ prog_1_method_29_code 3 (Option.some FieldType.long) ∈ gx_G := gx_c2 _ (List.mem_of_getElem? (i := 170) rfl) rfl
theorem gw_411 : Cond.constantLong "KeypadWriter" 266 (31 : Int64) ∈ gx_G := gx_c2 _ (List.mem_of_getElem? (i := 171) rfl) rfl
theorem gw_412 : Cond.methodLink "KeypadWriter" 259 ⟨"KeypadWriter", "mixedWord", "(JI)J"⟩ ∈ gx_G := gx_c2 _ (List.mem_of_getElem? (i := 172) rfl) rfl
theorem gw_414 : Cond.instanceMethod ⟨"KeypadWriter", "mixedWord", "(JI)J"⟩ ∈ gx_G := gx_c2 _ (List.mem_of_getElem? (i := 174) rfl) rfl
theorem gw_415 : Cond.code ⟨"KeypadWriter", "mixedWord", "(JI)J"⟩ prog_1_method_27_code 7 (Option.some FieldType.long) ∈ gx_G := gx_c2 _ (List.mem_of_getElem? (i := 175) rfl) rfl
theorem gw_416 : Cond.methodLink "KeypadWriter" 112 ⟨"KeypadWriter$WordList", "valueOf", "(II)I"⟩ ∈ gx_G := gx_c2 _ (List.mem_of_getElem? (i := 176) rfl) rfl
theorem gw_417 : Cond.instanceMethod ⟨"KeypadWriter$WordList", "valueOf", "(II)I"⟩ ∈ gx_G := gx_c2 _ (List.mem_of_getElem? (i := 177) rfl) rfl
theorem gw_418 : Cond.selects "KeypadWriter$WordList" ⟨"KeypadWriter$WordList", "valueOf", "(II)I"⟩ ⟨"KeypadWriter$WordList", "valueOf", "(II)I"⟩ ∈ gx_G := gx_c2 _ (List.mem_of_getElem? (i := 178) rfl) rfl
theorem gw_419 : Cond.code ⟨"KeypadWriter$WordList", "valueOf", "(II)I"⟩ prog_8_method_11_code 3 (Option.some FieldType.int) ∈ gx_G := gx_c2 _ (List.mem_of_getElem? (i := 179) rfl) rfl
theorem gw_420 : Cond.methodLink "KeypadWriter$WordList" 49 ⟨"KeypadWriter$Slots", "lengthOf", "(J)I"⟩ ∈ gx_G := gx_c2 _ (List.mem_of_getElem? (i := 180) rfl) rfl
theorem gw_421 : Cond.methodLink "KeypadWriter$WordList" 53 ⟨"KeypadWriter$WordList", "countAt", "(I)I"⟩ ∈ gx_G := gx_c2 _ (List.mem_of_getElem? (i := 181) rfl) rfl
theorem gw_422 : Cond.instanceMethod ⟨"KeypadWriter$WordList", "countAt", "(I)I"⟩ ∈ gx_G := gx_c2 _ (List.mem_of_getElem? (i := 182) rfl) rfl
theorem gw_423 : Cond.selects "KeypadWriter$WordList" ⟨"KeypadWriter$WordList", "countAt", "(I)I"⟩ ⟨"KeypadWriter$WordList", "countAt", "(I)I"⟩ ∈ gx_G := gx_c2 _ (List.mem_of_getElem? (i := 183) rfl) rfl
theorem gw_424 : Cond.code ⟨"KeypadWriter$WordList", "countAt", "(I)I"⟩ prog_8_method_8_code 2 (Option.some FieldType.int) ∈ gx_G := gx_c2 _ (List.mem_of_getElem? (i := 184) rfl) rfl
theorem gw_425 : Cond.methodLink "KeypadWriter$WordList" 57 ⟨"KeypadWriter$WordList", "timeAt", "(I)I"⟩ ∈ gx_G := gx_c2 _ (List.mem_of_getElem? (i := 185) rfl) rfl
theorem gw_426 : Cond.instanceMethod ⟨"KeypadWriter$WordList", "timeAt", "(I)I"⟩ ∈ gx_G := gx_c2 _ (List.mem_of_getElem? (i := 186) rfl) rfl
theorem gw_427 : Cond.selects "KeypadWriter$WordList" ⟨"KeypadWriter$WordList", "timeAt", "(I)I"⟩ ⟨"KeypadWriter$WordList", "timeAt", "(I)I"⟩ ∈ gx_G := gx_c2 _ (List.mem_of_getElem? (i := 187) rfl) rfl
theorem gw_428 : Cond.code ⟨"KeypadWriter$WordList", "timeAt", "(I)I"⟩ prog_8_method_9_code 2 (Option.some FieldType.int) ∈ gx_G := gx_c2 _ (List.mem_of_getElem? (i := 188) rfl) rfl
theorem gw_429 : Cond.methodLink "KeypadWriter$WordList" 60 ⟨"KeypadWriter$WordList", "isAdded", "(I)Z"⟩ ∈ gx_G := gx_c2 _ (List.mem_of_getElem? (i := 189) rfl) rfl
theorem gw_430 : Cond.instanceMethod ⟨"KeypadWriter$WordList", "isAdded", "(I)Z"⟩ ∈ gx_G := gx_c2 _ (List.mem_of_getElem? (i := 190) rfl) rfl
theorem gw_431 : Cond.selects "KeypadWriter$WordList" ⟨"KeypadWriter$WordList", "isAdded", "(I)Z"⟩ ⟨"KeypadWriter$WordList", "isAdded", "(I)Z"⟩ ∈ gx_G := gx_c2 _ (List.mem_of_getElem? (i := 191) rfl) rfl
theorem gw_432 : Cond.code ⟨"KeypadWriter$WordList", "isAdded", "(I)Z"⟩ prog_8_method_10_code 2 (Option.some FieldType.boolean) ∈ gx_G := gx_c2 _ (List.mem_of_getElem? (i := 192) rfl) rfl
theorem gw_433 : Cond.methodLink "KeypadWriter$WordList" 63 ⟨"KeypadWriter$WordList", "rankOf", "(I)I"⟩ ∈ gx_G := gx_c2 _ (List.mem_of_getElem? (i := 193) rfl) rfl
theorem gw_434 : Cond.instanceMethod ⟨"KeypadWriter$WordList", "rankOf", "(I)I"⟩ ∈ gx_G := gx_c2 _ (List.mem_of_getElem? (i := 194) rfl) rfl
theorem gw_435 : Cond.selects "KeypadWriter$WordList" ⟨"KeypadWriter$WordList", "rankOf", "(I)I"⟩ ⟨"KeypadWriter$WordList", "rankOf", "(I)I"⟩ ∈ gx_G := gx_c2 _ (List.mem_of_getElem? (i := 195) rfl) rfl
theorem gw_436 : Cond.code ⟨"KeypadWriter$WordList", "rankOf", "(I)I"⟩ prog_8_method_14_code 4 (Option.some FieldType.int) ∈ gx_G := gx_c2 _ (List.mem_of_getElem? (i := 196) rfl) rfl
theorem gw_437 : Cond.methodLink "KeypadWriter$WordList" 66 ⟨"KeypadWriter$WordList", "ranksBefore", "(II)Z"⟩ ∈ gx_G := gx_c2 _ (List.mem_of_getElem? (i := 197) rfl) rfl
theorem gw_438 : Cond.methodLink "KeypadWriter" 262 ⟨"KeypadWriter", "mixedLetters", "(JJ)J"⟩ ∈ gx_G := gx_c2 _ (List.mem_of_getElem? (i := 198) rfl) rfl
theorem gw_439 : Cond.static ⟨"KeypadWriter", "mixedLetters", "(JJ)J"⟩ ∈ gx_G := gx_c2 _ (List.mem_of_getElem? (i := 199) rfl) rfl
theorem gw_440 : Cond.code ⟨"KeypadWriter", "mixedLetters", "(JJ)J"⟩ prog_1_method_28_code 8 (Option.some FieldType.long) ∈ gx_G := gx_c2 _ (List.mem_of_getElem? (i := 200) rfl) rfl
theorem gw_441 : Cond.methodLink "KeypadWriter" 221 ⟨"KeypadWriter$Slots", "lengthOf", "(J)I"⟩ ∈ gx_G := gx_c2 _ (List.mem_of_getElem? (i := 201) rfl) rfl
theorem gw_442 : Cond.methodLink "KeypadWriter" 127 ⟨"KeypadWriter$Slots", "letterAt", "(JI)I"⟩ ∈ gx_G := gx_c2 _ (List.mem_of_getElem? (i := 202) rfl) rfl
theorem gw_443 : Cond.static ⟨"KeypadWriter$Slots", "letterAt", "(JI)I"⟩ ∈ gx_G := gx_c2 _ (List.mem_of_getElem? (i := 203) rfl) rfl
theorem gw_444 : Cond.code ⟨"KeypadWriter$Slots", "letterAt", "(JI)I"⟩ prog_6_method_8_code 3 (Option.some FieldType.int) ∈ gx_G := gx_c2 _ (List.mem_of_getElem? (i := 204) rfl) rfl
theorem gw_445 : Cond.methodLink "KeypadWriter$Slots" 17 ⟨"KeypadWriter$Slots", "letterOf", "(I)I"⟩ ∈ gx_G := gx_c2 _ (List.mem_of_getElem? (i := 205) rfl) rfl
theorem gw_446 : Cond.static ⟨"KeypadWriter$Slots", "letterOf", "(I)I"⟩ ∈ gx_G := gx_c2 _ (List.mem_of_getElem? (i := 206) rfl) rfl
theorem gw_447 : Cond.code ⟨"KeypadWriter$Slots", "letterOf", "(I)I"⟩ prog_6_method_5_code 1 (Option.some FieldType.int) ∈ gx_G := gx_c2 _ (List.mem_of_getElem? (i := 207) rfl) rfl
theorem gw_448 : Cond.methodLink "KeypadWriter" 225 ⟨"KeypadWriter$WordList", "stepsTo", "(I)I"⟩ ∈ gx_G := gx_c2 _ (List.mem_of_getElem? (i := 208) rfl) rfl
theorem gw_449 : Cond.instanceMethod ⟨"KeypadWriter$WordList", "stepsTo", "(I)I"⟩ ∈ gx_G := gx_c2 _ (List.mem_of_getElem? (i := 209) rfl) rfl
theorem gw_450 : Cond.selects "KeypadWriter$WordList" ⟨"KeypadWriter$WordList", "stepsTo", "(I)I"⟩ ⟨"KeypadWriter$WordList", "stepsTo", "(I)I"⟩ ∈ gx_G := gx_c2 _ (List.mem_of_getElem? (i := 210) rfl) rfl
theorem gw_451 : Cond.code ⟨"KeypadWriter$WordList", "stepsTo", "(I)I"⟩ prog_8_method_21_code 4 (Option.some FieldType.int) ∈ gx_G := gx_c2 _ (List.mem_of_getElem? (i := 211) rfl) rfl
theorem gw_452 : Cond.methodLink "KeypadWriter" 211 ⟨"KeypadWriter", "placeValue", "(I)I"⟩ ∈ gx_G := gx_c2 _ (List.mem_of_getElem? (i := 212) rfl) rfl
theorem gw_454 : Cond.instanceMethod ⟨"KeypadWriter", "placeValue", "(I)I"⟩ ∈ gx_G := gx_c2 _ (List.mem_of_getElem? (i := 214) rfl) rfl
theorem gw_455 : Cond.code ⟨"KeypadWriter", "placeValue", "(I)I"⟩ prog_1_method_31_code 3 (Option.some FieldType.int) ∈ gx_G := gx_c2 _ (List.mem_of_getElem? (i := 215) rfl) rfl
theorem gw_456 : Cond.methodLink "KeypadWriter" 271 ⟨"KeypadWriter$Slots", "codeAt", "(JI)I"⟩ ∈ gx_G := gx_c2 _ (List.mem_of_getElem? (i := 216) rfl) rfl
theorem gw_457 : Cond.methodLink "KeypadWriter" 274 ⟨"KeypadWriter$Slots", "isLetter", "(I)Z"⟩ ∈ gx_G := gx_c2 _ (List.mem_of_getElem? (i := 217) rfl) rfl
theorem gw_458 : Cond.methodLink "KeypadWriter" 277 ⟨"KeypadWriter$Slots", "letterOf", "(I)I"⟩ ∈ gx_G := gx_c2 _ (List.mem_of_getElem? (i := 218) rfl) rfl
theorem gw_459 : Cond.methodLink "KeypadWriter" 280 ⟨"KeypadWriter$Slots", "keyOf", "(I)I"⟩ ∈ gx_G := gx_c2 _ (List.mem_of_getElem? (i := 219) rfl) rfl
theorem gw_460 : Cond.methodLink "KeypadWriter" 220 ⟨"KeypadWriter$WrittenText", "wordAt", "(I)J"⟩ ∈ gx_G := gx_c2 _ (List.mem_of_getElem? (i := 220) rfl) rfl
theorem gw_461 : Cond.instanceMethod ⟨"KeypadWriter$WrittenText", "wordAt", "(I)J"⟩ ∈ gx_G := gx_c2 _ (List.mem_of_getElem? (i := 221) rfl) rfl
theorem gw_462 : Cond.selects "KeypadWriter$WrittenText" ⟨"KeypadWriter$WrittenText", "wordAt", "(I)J"⟩ ⟨"KeypadWriter$WrittenText", "wordAt", "(I)J"⟩ ∈ gx_G := gx_c2 _ (List.mem_of_getElem? (i := 222) rfl) rfl
theorem gw_463 : Cond.code ⟨"KeypadWriter$WrittenText", "wordAt", "(I)J"⟩ prog_9_method_4_code 2 (Option.some FieldType.long) ∈ gx_G := gx_c2 _ (List.mem_of_getElem? (i := 223) rfl) rfl
theorem gw_464 : Cond.methodLink "KeypadWriter$WrittenText" 25 ⟨"KeypadWriter$WrittenText", "has", "(I)Z"⟩ ∈ gx_G := gx_c2 _ (List.mem_of_getElem? (i := 224) rfl) rfl
theorem gw_465 : Cond.instanceMethod ⟨"KeypadWriter$WrittenText", "has", "(I)Z"⟩ ∈ gx_G := gx_c2 _ (List.mem_of_getElem? (i := 225) rfl) rfl
theorem gw_466 : Cond.selects "KeypadWriter$WrittenText" ⟨"KeypadWriter$WrittenText", "has", "(I)Z"⟩ ⟨"KeypadWriter$WrittenText", "has", "(I)Z"⟩ ∈ gx_G := gx_c2 _ (List.mem_of_getElem? (i := 226) rfl) rfl
theorem gw_467 : Cond.code ⟨"KeypadWriter$WrittenText", "has", "(I)Z"⟩ prog_9_method_3_code 2 (Option.some FieldType.boolean) ∈ gx_G := gx_c2 _ (List.mem_of_getElem? (i := 227) rfl) rfl
theorem gw_468 : Cond.methodLink "KeypadWriterLaw" 21 ⟨"KeypadWriterLaw", "cell", "([II)I"⟩ ∈ gx_G := gx_c2 _ (List.mem_of_getElem? (i := 228) rfl) rfl
theorem gw_469 : Cond.static ⟨"KeypadWriterLaw", "cell", "([II)I"⟩ ∈ gx_G := gx_c2 _ (List.mem_of_getElem? (i := 229) rfl) rfl
theorem gw_470 : Cond.code ⟨"KeypadWriterLaw", "cell", "([II)I"⟩ method_2_code 2 (Option.some FieldType.int) ∈ gx_G := gx_c2 _ (List.mem_of_getElem? (i := 230) rfl) rfl
theorem gw_471 : Cond.constant "KeypadWriterLaw" 7 (773529912 : Int32) ∈ gx_G := gx_c2 _ (List.mem_of_getElem? (i := 231) rfl) rfl
theorem gw_472 : Cond.methodLink "KeypadWriterLaw" 29 ⟨"KeypadWriterLaw", "up", "(II)I"⟩ ∈ gx_G := gx_c2 _ (List.mem_of_getElem? (i := 232) rfl) rfl
theorem gw_473 : Cond.static ⟨"KeypadWriterLaw", "up", "(II)I"⟩ ∈ gx_G := gx_c2 _ (List.mem_of_getElem? (i := 233) rfl) rfl
theorem gw_474 : Cond.code ⟨"KeypadWriterLaw", "up", "(II)I"⟩ method_3_code 2 (Option.some FieldType.int) ∈ gx_G := gx_c2 _ (List.mem_of_getElem? (i := 234) rfl) rfl
theorem gw_475 : Cond.constant "KeypadWriterLaw" 8 (2147483647 : Int32) ∈ gx_G := gx_c2 _ (List.mem_of_getElem? (i := 235) rfl) rfl
theorem gw_476 : Cond.methodLink "KeypadWriterLaw" 99 ⟨"KeypadWriterLaw", "loads", "(LKeypadWriter;LKeypadWriter;[II)Z"⟩ ∈ gx_G := gx_c2 _ (List.mem_of_getElem? (i := 236) rfl) rfl
theorem gw_477 : Cond.static ⟨"KeypadWriterLaw", "loads", "(LKeypadWriter;LKeypadWriter;[II)Z"⟩ ∈ gx_G := gx_c2 _ (List.mem_of_getElem? (i := 237) rfl) rfl
theorem gw_478 : Cond.code ⟨"KeypadWriterLaw", "loads", "(LKeypadWriter;LKeypadWriter;[II)Z"⟩ method_4_code 6 (Option.some FieldType.boolean) ∈ gx_G := gx_c2 _ (List.mem_of_getElem? (i := 238) rfl) rfl
theorem gw_479 : Cond.methodLink "KeypadWriterLaw" 9 ⟨"KeypadWriterLaw", "item", "(LKeypadWriter;[II)Z"⟩ ∈ gx_G := gx_c2 _ (List.mem_of_getElem? (i := 239) rfl) rfl
theorem gw_480 : Cond.static ⟨"KeypadWriterLaw", "item", "(LKeypadWriter;[II)Z"⟩ ∈ gx_G := gx_c3 _ (List.mem_of_getElem? (i := 0) rfl) rfl
theorem gw_481 : Cond.code ⟨"KeypadWriterLaw", "item", "(LKeypadWriter;[II)Z"⟩ method_5_code 7 (Option.some FieldType.boolean) ∈ gx_G := gx_c3 _ (List.mem_of_getElem? (i := 1) rfl) rfl
theorem gw_482 : Cond.methodLink "KeypadWriterLaw" 25 ⟨"KeypadWriter", "append", "(I)I"⟩ ∈ gx_G := gx_c3 _ (List.mem_of_getElem? (i := 2) rfl) rfl
theorem gw_483 : Cond.instanceMethod ⟨"KeypadWriter", "append", "(I)I"⟩ ∈ gx_G := gx_c3 _ (List.mem_of_getElem? (i := 3) rfl) rfl
theorem gw_484 : Cond.selects "KeypadWriter" ⟨"KeypadWriter", "append", "(I)I"⟩ ⟨"KeypadWriter", "append", "(I)I"⟩ ∈ gx_G := gx_c3 _ (List.mem_of_getElem? (i := 4) rfl) rfl
theorem gw_485 : Cond.code ⟨"KeypadWriter", "append", "(I)I"⟩ prog_1_method_2_code 2 (Option.some FieldType.int) ∈ gx_G := gx_c3 _ (List.mem_of_getElem? (i := 5) rfl) rfl
theorem gw_487 : Cond.methodLink "KeypadWriter" 51 ⟨"KeypadWriter$ListText", "isFull", "()Z"⟩ ∈ gx_G := gx_c3 _ (List.mem_of_getElem? (i := 7) rfl) rfl
theorem gw_488 : Cond.instanceMethod ⟨"KeypadWriter$ListText", "isFull", "()Z"⟩ ∈ gx_G := gx_c3 _ (List.mem_of_getElem? (i := 8) rfl) rfl
theorem gw_489 : Cond.selects "KeypadWriter$ListText" ⟨"KeypadWriter$ListText", "isFull", "()Z"⟩ ⟨"KeypadWriter$ListText", "isFull", "()Z"⟩ ∈ gx_G := gx_c3 _ (List.mem_of_getElem? (i := 9) rfl) rfl
theorem gw_490 : Cond.code ⟨"KeypadWriter$ListText", "isFull", "()Z"⟩ prog_4_method_2_code 1 (Option.some FieldType.boolean) ∈ gx_G := gx_c3 _ (List.mem_of_getElem? (i := 10) rfl) rfl
theorem gw_492 : Cond.methodLink "KeypadWriter" 60 ⟨"KeypadWriter$ListText", "addByte", "(I)V"⟩ ∈ gx_G := gx_c3 _ (List.mem_of_getElem? (i := 12) rfl) rfl
theorem gw_493 : Cond.instanceMethod ⟨"KeypadWriter$ListText", "addByte", "(I)V"⟩ ∈ gx_G := gx_c3 _ (List.mem_of_getElem? (i := 13) rfl) rfl
theorem gw_494 : Cond.selects "KeypadWriter$ListText" ⟨"KeypadWriter$ListText", "addByte", "(I)V"⟩ ⟨"KeypadWriter$ListText", "addByte", "(I)V"⟩ ∈ gx_G := gx_c3 _ (List.mem_of_getElem? (i := 14) rfl) rfl
theorem gw_495 : Cond.code ⟨"KeypadWriter$ListText", "addByte", "(I)V"⟩ prog_4_method_4_code 2 none ∈ gx_G := gx_c3 _ (List.mem_of_getElem? (i := 15) rfl) rfl
theorem gw_496 : Cond.methodLink "KeypadWriter$ListText" 19 ⟨"KeypadWriter$ListText", "isFull", "()Z"⟩ ∈ gx_G := gx_c3 _ (List.mem_of_getElem? (i := 16) rfl) rfl
theorem gw_497 : Cond.methodLink "KeypadWriterLaw" 15 ⟨"KeypadWriter", "load", "()I"⟩ ∈ gx_G := gx_c3 _ (List.mem_of_getElem? (i := 17) rfl) rfl
theorem gw_498 : Cond.instanceMethod ⟨"KeypadWriter", "load", "()I"⟩ ∈ gx_G := gx_c3 _ (List.mem_of_getElem? (i := 18) rfl) rfl
theorem gw_499 : Cond.selects "KeypadWriter" ⟨"KeypadWriter", "load", "()I"⟩ ⟨"KeypadWriter", "load", "()I"⟩ ∈ gx_G := gx_c3 _ (List.mem_of_getElem? (i := 19) rfl) rfl
theorem gw_500 : Cond.code ⟨"KeypadWriter", "load", "()I"⟩ prog_1_method_4_code 2 (Option.some FieldType.int) ∈ gx_G := gx_c3 _ (List.mem_of_getElem? (i := 20) rfl) rfl
theorem gw_501 : Cond.methodLink "KeypadWriter" 71 ⟨"KeypadWriter$ListText", "readInto", "(LKeypadWriter$WordList;)I"⟩ ∈ gx_G := gx_c3 _ (List.mem_of_getElem? (i := 21) rfl) rfl
theorem gw_502 : Cond.instanceMethod ⟨"KeypadWriter$ListText", "readInto", "(LKeypadWriter$WordList;)I"⟩ ∈ gx_G := gx_c3 _ (List.mem_of_getElem? (i := 22) rfl) rfl
theorem gw_503 : Cond.selects "KeypadWriter$ListText" ⟨"KeypadWriter$ListText", "readInto", "(LKeypadWriter$WordList;)I"⟩ ⟨"KeypadWriter$ListText", "readInto", "(LKeypadWriter$WordList;)I"⟩ ∈ gx_G := gx_c3 _ (List.mem_of_getElem? (i := 23) rfl) rfl
theorem gw_504 : Cond.code ⟨"KeypadWriter$ListText", "readInto", "(LKeypadWriter$WordList;)I"⟩ prog_4_method_5_code 3 (Option.some FieldType.int) ∈ gx_G := gx_c3 _ (List.mem_of_getElem? (i := 24) rfl) rfl
theorem gw_505 : Cond.methodLink "KeypadWriter$ListText" 23 ⟨"KeypadWriter$WordList", "clear", "()V"⟩ ∈ gx_G := gx_c3 _ (List.mem_of_getElem? (i := 25) rfl) rfl
theorem gw_506 : Cond.instanceMethod ⟨"KeypadWriter$WordList", "clear", "()V"⟩ ∈ gx_G := gx_c3 _ (List.mem_of_getElem? (i := 26) rfl) rfl
theorem gw_507 : Cond.selects "KeypadWriter$WordList" ⟨"KeypadWriter$WordList", "clear", "()V"⟩ ⟨"KeypadWriter$WordList", "clear", "()V"⟩ ∈ gx_G := gx_c3 _ (List.mem_of_getElem? (i := 27) rfl) rfl
theorem gw_508 : Cond.code ⟨"KeypadWriter$WordList", "clear", "()V"⟩ prog_8_method_2_code 1 none ∈ gx_G := gx_c3 _ (List.mem_of_getElem? (i := 28) rfl) rfl
theorem gw_509 : Cond.methodLink "KeypadWriter$ListText" 31 ⟨"KeypadWriter$ListText", "readItem", "(LKeypadWriter$WordList;)Z"⟩ ∈ gx_G := gx_c3 _ (List.mem_of_getElem? (i := 29) rfl) rfl
theorem gw_511 : Cond.instanceMethod ⟨"KeypadWriter$ListText", "readItem", "(LKeypadWriter$WordList;)Z"⟩ ∈ gx_G := gx_c3 _ (List.mem_of_getElem? (i := 31) rfl) rfl
theorem gw_512 : Cond.code ⟨"KeypadWriter$ListText", "readItem", "(LKeypadWriter$WordList;)Z"⟩ prog_4_method_6_code 6 (Option.some FieldType.boolean) ∈ gx_G := gx_c3 _ (List.mem_of_getElem? (i := 32) rfl) rfl
theorem gw_513 : Cond.methodLink "KeypadWriter$ListText" 35 ⟨"KeypadWriter$WordList", "isFull", "()Z"⟩ ∈ gx_G := gx_c3 _ (List.mem_of_getElem? (i := 33) rfl) rfl
theorem gw_514 : Cond.instanceMethod ⟨"KeypadWriter$WordList", "isFull", "()Z"⟩ ∈ gx_G := gx_c3 _ (List.mem_of_getElem? (i := 34) rfl) rfl
theorem gw_515 : Cond.selects "KeypadWriter$WordList" ⟨"KeypadWriter$WordList", "isFull", "()Z"⟩ ⟨"KeypadWriter$WordList", "isFull", "()Z"⟩ ∈ gx_G := gx_c3 _ (List.mem_of_getElem? (i := 35) rfl) rfl
theorem gw_516 : Cond.code ⟨"KeypadWriter$WordList", "isFull", "()Z"⟩ prog_8_method_5_code 1 (Option.some FieldType.boolean) ∈ gx_G := gx_c3 _ (List.mem_of_getElem? (i := 36) rfl) rfl
theorem gw_517 : Cond.methodLink "KeypadWriter$ListText" 36 ⟨"KeypadWriter$ListText", "readWord", "()J"⟩ ∈ gx_G := gx_c3 _ (List.mem_of_getElem? (i := 37) rfl) rfl
theorem gw_519 : Cond.instanceMethod ⟨"KeypadWriter$ListText", "readWord", "()J"⟩ ∈ gx_G := gx_c3 _ (List.mem_of_getElem? (i := 39) rfl) rfl
theorem gw_520 : Cond.code ⟨"KeypadWriter$ListText", "readWord", "()J"⟩ prog_4_method_7_code 4 (Option.some FieldType.long) ∈ gx_G := gx_c3 _ (List.mem_of_getElem? (i := 40) rfl) rfl
theorem gw_521 : Cond.methodLink "KeypadWriter$ListText" 57 ⟨"KeypadWriter$ListText", "isHere", "(II)Z"⟩ ∈ gx_G := gx_c3 _ (List.mem_of_getElem? (i := 41) rfl) rfl
theorem gw_523 : Cond.instanceMethod ⟨"KeypadWriter$ListText", "isHere", "(II)Z"⟩ ∈ gx_G := gx_c3 _ (List.mem_of_getElem? (i := 43) rfl) rfl
theorem gw_524 : Cond.code ⟨"KeypadWriter$ListText", "isHere", "(II)Z"⟩ prog_4_method_9_code 4 (Option.some FieldType.boolean) ∈ gx_G := gx_c3 _ (List.mem_of_getElem? (i := 44) rfl) rfl
theorem gw_525 : Cond.methodLink "KeypadWriter$ListText" 42 ⟨"KeypadWriter$ListText", "byteHere", "()I"⟩ ∈ gx_G := gx_c3 _ (List.mem_of_getElem? (i := 45) rfl) rfl
theorem gw_527 : Cond.instanceMethod ⟨"KeypadWriter$ListText", "byteHere", "()I"⟩ ∈ gx_G := gx_c3 _ (List.mem_of_getElem? (i := 47) rfl) rfl
theorem gw_528 : Cond.code ⟨"KeypadWriter$ListText", "byteHere", "()I"⟩ prog_4_method_10_code 1 (Option.some FieldType.int) ∈ gx_G := gx_c3 _ (List.mem_of_getElem? (i := 48) rfl) rfl
theorem gw_529 : Cond.methodLink "KeypadWriter$ListText" 61 ⟨"KeypadWriter$Slots", "codeOfLetter", "(I)I"⟩ ∈ gx_G := gx_c3 _ (List.mem_of_getElem? (i := 49) rfl) rfl
theorem gw_530 : Cond.methodLink "KeypadWriter$ListText" 65 ⟨"KeypadWriter$Slots", "with", "(JII)J"⟩ ∈ gx_G := gx_c3 _ (List.mem_of_getElem? (i := 50) rfl) rfl
theorem gw_531 : Cond.methodLink "KeypadWriter$ListText" 46 ⟨"KeypadWriter$WordList", "find", "(J)I"⟩ ∈ gx_G := gx_c3 _ (List.mem_of_getElem? (i := 51) rfl) rfl
theorem gw_532 : Cond.instanceMethod ⟨"KeypadWriter$WordList", "find", "(J)I"⟩ ∈ gx_G := gx_c3 _ (List.mem_of_getElem? (i := 52) rfl) rfl
theorem gw_533 : Cond.selects "KeypadWriter$WordList" ⟨"KeypadWriter$WordList", "find", "(J)I"⟩ ⟨"KeypadWriter$WordList", "find", "(J)I"⟩ ∈ gx_G := gx_c3 _ (List.mem_of_getElem? (i := 53) rfl) rfl
theorem gw_534 : Cond.code ⟨"KeypadWriter$WordList", "find", "(J)I"⟩ prog_8_method_12_code 4 (Option.some FieldType.int) ∈ gx_G := gx_c3 _ (List.mem_of_getElem? (i := 54) rfl) rfl
theorem gw_535 : Cond.methodLink "KeypadWriter$ListText" 50 ⟨"KeypadWriter$ListText", "readCount", "()I"⟩ ∈ gx_G := gx_c3 _ (List.mem_of_getElem? (i := 55) rfl) rfl
theorem gw_537 : Cond.instanceMethod ⟨"KeypadWriter$ListText", "readCount", "()I"⟩ ∈ gx_G := gx_c3 _ (List.mem_of_getElem? (i := 57) rfl) rfl
theorem gw_538 : Cond.code ⟨"KeypadWriter$ListText", "readCount", "()I"⟩ prog_4_method_8_code 3 (Option.some FieldType.int) ∈ gx_G := gx_c3 _ (List.mem_of_getElem? (i := 58) rfl) rfl
theorem gw_539 : Cond.methodLink "KeypadWriter$ListText" 53 ⟨"KeypadWriter$WordList", "insert", "(JIIZ)V"⟩ ∈ gx_G := gx_c3 _ (List.mem_of_getElem? (i := 59) rfl) rfl
theorem gw_540 : Cond.instanceMethod ⟨"KeypadWriter$WordList", "insert", "(JIIZ)V"⟩ ∈ gx_G := gx_c3 _ (List.mem_of_getElem? (i := 60) rfl) rfl
theorem gw_541 : Cond.selects "KeypadWriter$WordList" ⟨"KeypadWriter$WordList", "insert", "(JIIZ)V"⟩ ⟨"KeypadWriter$WordList", "insert", "(JIIZ)V"⟩ ∈ gx_G := gx_c3 _ (List.mem_of_getElem? (i := 61) rfl) rfl
theorem gw_542 : Cond.code ⟨"KeypadWriter$WordList", "insert", "(JIIZ)V"⟩ prog_8_method_16_code 6 none ∈ gx_G := gx_c3 _ (List.mem_of_getElem? (i := 62) rfl) rfl
theorem gw_543 : Cond.methodLink "KeypadWriter$WordList" 77 ⟨"KeypadWriter$WordList", "isFull", "()Z"⟩ ∈ gx_G := gx_c3 _ (List.mem_of_getElem? (i := 63) rfl) rfl
theorem gw_544 : Cond.methodLink "KeypadWriter$WordList" 81 ⟨"KeypadWriter$Slots", "keysOf", "(J)J"⟩ ∈ gx_G := gx_c3 _ (List.mem_of_getElem? (i := 64) rfl) rfl
theorem gw_545 : Cond.static ⟨"KeypadWriter$Slots", "keysOf", "(J)J"⟩ ∈ gx_G := gx_c3 _ (List.mem_of_getElem? (i := 65) rfl) rfl
theorem gw_546 : Cond.code ⟨"KeypadWriter$Slots", "keysOf", "(J)J"⟩ prog_6_method_13_code 6 (Option.some FieldType.long) ∈ gx_G := gx_c3 _ (List.mem_of_getElem? (i := 66) rfl) rfl
theorem gw_547 : Cond.methodLink "KeypadWriter$Slots" 31 ⟨"KeypadWriter$Slots", "letterAt", "(JI)I"⟩ ∈ gx_G := gx_c3 _ (List.mem_of_getElem? (i := 67) rfl) rfl
theorem gw_548 : Cond.methodLink "KeypadWriter$Slots" 34 ⟨"KeypadWriter$Keys", "keyWith", "(I)I"⟩ ∈ gx_G := gx_c3 _ (List.mem_of_getElem? (i := 68) rfl) rfl
theorem gw_549 : Cond.static ⟨"KeypadWriter$Keys", "keyWith", "(I)I"⟩ ∈ gx_G := gx_c3 _ (List.mem_of_getElem? (i := 69) rfl) rfl
theorem gw_550 : Cond.code ⟨"KeypadWriter$Keys", "keyWith", "(I)I"⟩ prog_3_method_3_code 1 (Option.some FieldType.int) ∈ gx_G := gx_c3 _ (List.mem_of_getElem? (i := 70) rfl) rfl
theorem gw_551 : Cond.fieldLink "KeypadWriter$Keys" 11 "KeypadWriter$Keys" "KEY_OF_LETTER" "[I" ∈ gx_G := gx_c3 _ (List.mem_of_getElem? (i := 71) rfl) rfl
theorem gw_553 : Cond.methodLink "KeypadWriter$Slots" 39 ⟨"KeypadWriter$Slots", "codeOfKey", "(I)I"⟩ ∈ gx_G := gx_c3 _ (List.mem_of_getElem? (i := 73) rfl) rfl
theorem gw_554 : Cond.static ⟨"KeypadWriter$Slots", "codeOfKey", "(I)I"⟩ ∈ gx_G := gx_c3 _ (List.mem_of_getElem? (i := 74) rfl) rfl
theorem gw_555 : Cond.code ⟨"KeypadWriter$Slots", "codeOfKey", "(I)I"⟩ prog_6_method_3_code 1 (Option.some FieldType.int) ∈ gx_G := gx_c3 _ (List.mem_of_getElem? (i := 75) rfl) rfl
theorem gw_556 : Cond.methodLink "KeypadWriter" 82 ⟨"KeypadWriter$WordList", "copyFrom", "(LKeypadWriter$WordList;)V"⟩ ∈ gx_G := gx_c3 _ (List.mem_of_getElem? (i := 76) rfl) rfl
theorem gw_557 : Cond.methodLink "KeypadWriterLaw" 107 ⟨"KeypadWriterLaw", "isStep", "(LKeypadWriter;LKeypadWriter;I)Z"⟩ ∈ gx_G := gx_c3 _ (List.mem_of_getElem? (i := 77) rfl) rfl
theorem gw_558 : Cond.static ⟨"KeypadWriterLaw", "isStep", "(LKeypadWriter;LKeypadWriter;I)Z"⟩ ∈ gx_G := gx_c3 _ (List.mem_of_getElem? (i := 78) rfl) rfl
theorem gw_559 : Cond.code ⟨"KeypadWriterLaw", "isStep", "(LKeypadWriter;LKeypadWriter;I)Z"⟩ method_6_code 5 (Option.some FieldType.boolean) ∈ gx_G := gx_c3 _ (List.mem_of_getElem? (i := 79) rfl) rfl
theorem gw_560 : Cond.methodLink "KeypadWriterLaw" 36 ⟨"KeypadWriter", "accept", "()I"⟩ ∈ gx_G := gx_c3 _ (List.mem_of_getElem? (i := 80) rfl) rfl
theorem gw_561 : Cond.instanceMethod ⟨"KeypadWriter", "accept", "()I"⟩ ∈ gx_G := gx_c3 _ (List.mem_of_getElem? (i := 81) rfl) rfl
theorem gw_562 : Cond.selects "KeypadWriter" ⟨"KeypadWriter", "accept", "()I"⟩ ⟨"KeypadWriter", "accept", "()I"⟩ ∈ gx_G := gx_c3 _ (List.mem_of_getElem? (i := 82) rfl) rfl
theorem gw_563 : Cond.code ⟨"KeypadWriter", "accept", "()I"⟩ prog_1_method_13_code 1 (Option.some FieldType.int) ∈ gx_G := gx_c3 _ (List.mem_of_getElem? (i := 83) rfl) rfl
theorem gw_566 : Cond.methodLink "KeypadWriter" 191 ⟨"KeypadWriter$State", "takeWord", "(J)V"⟩ ∈ gx_G := gx_c3 _ (List.mem_of_getElem? (i := 86) rfl) rfl
theorem gw_567 : Cond.instanceMethod ⟨"KeypadWriter$State", "takeWord", "(J)V"⟩ ∈ gx_G := gx_c3 _ (List.mem_of_getElem? (i := 87) rfl) rfl
theorem gw_568 : Cond.selects "KeypadWriter$State" ⟨"KeypadWriter$State", "takeWord", "(J)V"⟩ ⟨"KeypadWriter$State", "takeWord", "(J)V"⟩ ∈ gx_G := gx_c3 _ (List.mem_of_getElem? (i := 88) rfl) rfl
theorem gw_569 : Cond.code ⟨"KeypadWriter$State", "takeWord", "(J)V"⟩ prog_7_method_8_code 3 none ∈ gx_G := gx_c3 _ (List.mem_of_getElem? (i := 89) rfl) rfl
theorem gw_570 : Cond.methodLink "KeypadWriter$State" 104 ⟨"KeypadWriter$WordList", "countUse", "(JI)V"⟩ ∈ gx_G := gx_c3 _ (List.mem_of_getElem? (i := 90) rfl) rfl
theorem gw_571 : Cond.instanceMethod ⟨"KeypadWriter$WordList", "countUse", "(JI)V"⟩ ∈ gx_G := gx_c3 _ (List.mem_of_getElem? (i := 91) rfl) rfl
theorem gw_572 : Cond.selects "KeypadWriter$WordList" ⟨"KeypadWriter$WordList", "countUse", "(JI)V"⟩ ⟨"KeypadWriter$WordList", "countUse", "(JI)V"⟩ ∈ gx_G := gx_c3 _ (List.mem_of_getElem? (i := 92) rfl) rfl
theorem gw_573 : Cond.code ⟨"KeypadWriter$WordList", "countUse", "(JI)V"⟩ prog_8_method_18_code 5 none ∈ gx_G := gx_c3 _ (List.mem_of_getElem? (i := 93) rfl) rfl
theorem gw_574 : Cond.methodLink "KeypadWriter$WordList" 85 ⟨"KeypadWriter$WordList", "find", "(J)I"⟩ ∈ gx_G := gx_c3 _ (List.mem_of_getElem? (i := 94) rfl) rfl
theorem gw_575 : Cond.methodLink "KeypadWriter$WordList" 88 ⟨"java/lang/Math", "min", "(II)I"⟩ ∈ gx_G := gx_c3 _ (List.mem_of_getElem? (i := 95) rfl) rfl
theorem gw_576 : Cond.static ⟨"java/lang/Math", "min", "(II)I"⟩ ∈ gx_G := gx_c3 _ (List.mem_of_getElem? (i := 96) rfl) rfl
theorem gw_577 : Cond.code ⟨"java/lang/Math", "min", "(II)I"⟩ prog_16_method_69_code 2 (Option.some FieldType.int) ∈ gx_G := gx_c3 _ (List.mem_of_getElem? (i := 97) rfl) rfl
theorem gw_578 : Cond.methodLink "KeypadWriter$WordList" 94 ⟨"KeypadWriter$WordList", "lastAdded", "()I"⟩ ∈ gx_G := gx_c3 _ (List.mem_of_getElem? (i := 98) rfl) rfl
theorem gw_580 : Cond.instanceMethod ⟨"KeypadWriter$WordList", "lastAdded", "()I"⟩ ∈ gx_G := gx_c3 _ (List.mem_of_getElem? (i := 100) rfl) rfl
theorem gw_581 : Cond.code ⟨"KeypadWriter$WordList", "lastAdded", "()I"⟩ prog_8_method_19_code 3 (Option.some FieldType.int) ∈ gx_G := gx_c3 _ (List.mem_of_getElem? (i := 101) rfl) rfl
theorem gw_582 : Cond.methodLink "KeypadWriter$WordList" 98 ⟨"KeypadWriter$WordList", "remove", "(I)V"⟩ ∈ gx_G := gx_c3 _ (List.mem_of_getElem? (i := 102) rfl) rfl
theorem gw_583 : Cond.instanceMethod ⟨"KeypadWriter$WordList", "remove", "(I)V"⟩ ∈ gx_G := gx_c3 _ (List.mem_of_getElem? (i := 103) rfl) rfl
theorem gw_584 : Cond.selects "KeypadWriter$WordList" ⟨"KeypadWriter$WordList", "remove", "(I)V"⟩ ⟨"KeypadWriter$WordList", "remove", "(I)V"⟩ ∈ gx_G := gx_c3 _ (List.mem_of_getElem? (i := 104) rfl) rfl
theorem gw_585 : Cond.code ⟨"KeypadWriter$WordList", "remove", "(I)V"⟩ prog_8_method_17_code 4 none ∈ gx_G := gx_c3 _ (List.mem_of_getElem? (i := 105) rfl) rfl
theorem gw_586 : Cond.methodLink "KeypadWriter$WordList" 102 ⟨"KeypadWriter$WordList", "insert", "(JIIZ)V"⟩ ∈ gx_G := gx_c3 _ (List.mem_of_getElem? (i := 106) rfl) rfl
theorem gw_587 : Cond.methodLink "KeypadWriter$State" 108 ⟨"KeypadWriter$WordList", "ageAllBut", "(J)V"⟩ ∈ gx_G := gx_c3 _ (List.mem_of_getElem? (i := 107) rfl) rfl
theorem gw_588 : Cond.instanceMethod ⟨"KeypadWriter$WordList", "ageAllBut", "(J)V"⟩ ∈ gx_G := gx_c3 _ (List.mem_of_getElem? (i := 108) rfl) rfl
theorem gw_589 : Cond.selects "KeypadWriter$WordList" ⟨"KeypadWriter$WordList", "ageAllBut", "(J)V"⟩ ⟨"KeypadWriter$WordList", "ageAllBut", "(J)V"⟩ ∈ gx_G := gx_c3 _ (List.mem_of_getElem? (i := 109) rfl) rfl
theorem gw_590 : Cond.code ⟨"KeypadWriter$WordList", "ageAllBut", "(J)V"⟩ prog_8_method_20_code 4 none ∈ gx_G := gx_c3 _ (List.mem_of_getElem? (i := 110) rfl) rfl
theorem gw_591 : Cond.methodLink "KeypadWriter$State" 112 ⟨"KeypadWriter$WrittenText", "addWord", "(J)V"⟩ ∈ gx_G := gx_c3 _ (List.mem_of_getElem? (i := 111) rfl) rfl
theorem gw_592 : Cond.instanceMethod ⟨"KeypadWriter$WrittenText", "addWord", "(J)V"⟩ ∈ gx_G := gx_c3 _ (List.mem_of_getElem? (i := 112) rfl) rfl
theorem gw_593 : Cond.selects "KeypadWriter$WrittenText" ⟨"KeypadWriter$WrittenText", "addWord", "(J)V"⟩ ⟨"KeypadWriter$WrittenText", "addWord", "(J)V"⟩ ∈ gx_G := gx_c3 _ (List.mem_of_getElem? (i := 113) rfl) rfl
theorem gw_594 : Cond.code ⟨"KeypadWriter$WrittenText", "addWord", "(J)V"⟩ prog_9_method_5_code 3 none ∈ gx_G := gx_c3 _ (List.mem_of_getElem? (i := 114) rfl) rfl
theorem gw_595 : Cond.methodLink "KeypadWriter$State" 115 ⟨"KeypadWriter$WrittenText", "replace", "(IJ)V"⟩ ∈ gx_G := gx_c3 _ (List.mem_of_getElem? (i := 115) rfl) rfl
theorem gw_596 : Cond.instanceMethod ⟨"KeypadWriter$WrittenText", "replace", "(IJ)V"⟩ ∈ gx_G := gx_c3 _ (List.mem_of_getElem? (i := 116) rfl) rfl
theorem gw_597 : Cond.selects "KeypadWriter$WrittenText" ⟨"KeypadWriter$WrittenText", "replace", "(IJ)V"⟩ ⟨"KeypadWriter$WrittenText", "replace", "(IJ)V"⟩ ∈ gx_G := gx_c3 _ (List.mem_of_getElem? (i := 117) rfl) rfl
theorem gw_598 : Cond.code ⟨"KeypadWriter$WrittenText", "replace", "(IJ)V"⟩ prog_9_method_6_code 4 none ∈ gx_G := gx_c3 _ (List.mem_of_getElem? (i := 118) rfl) rfl
theorem gw_599 : Cond.methodLink "KeypadWriterLaw" 39 ⟨"KeypadWriter", "erase", "()I"⟩ ∈ gx_G := gx_c3 _ (List.mem_of_getElem? (i := 119) rfl) rfl
theorem gw_600 : Cond.instanceMethod ⟨"KeypadWriter", "erase", "()I"⟩ ∈ gx_G := gx_c3 _ (List.mem_of_getElem? (i := 120) rfl) rfl
theorem gw_601 : Cond.selects "KeypadWriter" ⟨"KeypadWriter", "erase", "()I"⟩ ⟨"KeypadWriter", "erase", "()I"⟩ ∈ gx_G := gx_c3 _ (List.mem_of_getElem? (i := 121) rfl) rfl
theorem gw_602 : Cond.code ⟨"KeypadWriter", "erase", "()I"⟩ prog_1_method_12_code 1 (Option.some FieldType.int) ∈ gx_G := gx_c3 _ (List.mem_of_getElem? (i := 122) rfl) rfl
theorem gw_603 : Cond.methodLink "KeypadWriter" 176 ⟨"KeypadWriter$State", "dropLastPlace", "()V"⟩ ∈ gx_G := gx_c3 _ (List.mem_of_getElem? (i := 123) rfl) rfl
theorem gw_604 : Cond.instanceMethod ⟨"KeypadWriter$State", "dropLastPlace", "()V"⟩ ∈ gx_G := gx_c3 _ (List.mem_of_getElem? (i := 124) rfl) rfl
theorem gw_605 : Cond.selects "KeypadWriter$State" ⟨"KeypadWriter$State", "dropLastPlace", "()V"⟩ ⟨"KeypadWriter$State", "dropLastPlace", "()V"⟩ ∈ gx_G := gx_c3 _ (List.mem_of_getElem? (i := 125) rfl) rfl
theorem gw_606 : Cond.code ⟨"KeypadWriter$State", "dropLastPlace", "()V"⟩ prog_7_method_6_code 1 none ∈ gx_G := gx_c3 _ (List.mem_of_getElem? (i := 126) rfl) rfl
theorem gw_607 : Cond.methodLink "KeypadWriter$State" 65 ⟨"KeypadWriter$State", "places", "()I"⟩ ∈ gx_G := gx_c3 _ (List.mem_of_getElem? (i := 127) rfl) rfl
theorem gw_608 : Cond.methodLink "KeypadWriter$State" 92 ⟨"KeypadWriter$Slots", "firstOf", "(JI)J"⟩ ∈ gx_G := gx_c3 _ (List.mem_of_getElem? (i := 128) rfl) rfl
theorem gw_609 : Cond.methodLink "KeypadWriter$State" 96 ⟨"KeypadWriter$WrittenText", "remove", "(I)V"⟩ ∈ gx_G := gx_c3 _ (List.mem_of_getElem? (i := 129) rfl) rfl
theorem gw_610 : Cond.instanceMethod ⟨"KeypadWriter$WrittenText", "remove", "(I)V"⟩ ∈ gx_G := gx_c3 _ (List.mem_of_getElem? (i := 130) rfl) rfl
theorem gw_611 : Cond.selects "KeypadWriter$WrittenText" ⟨"KeypadWriter$WrittenText", "remove", "(I)V"⟩ ⟨"KeypadWriter$WrittenText", "remove", "(I)V"⟩ ∈ gx_G := gx_c3 _ (List.mem_of_getElem? (i := 131) rfl) rfl
theorem gw_612 : Cond.code ⟨"KeypadWriter$WrittenText", "remove", "(I)V"⟩ prog_9_method_7_code 3 none ∈ gx_G := gx_c3 _ (List.mem_of_getElem? (i := 132) rfl) rfl
theorem gw_613 : Cond.methodLink "KeypadWriterLaw" 42 ⟨"KeypadWriter", "open", "(I)I"⟩ ∈ gx_G := gx_c3 _ (List.mem_of_getElem? (i := 133) rfl) rfl
theorem gw_614 : Cond.instanceMethod ⟨"KeypadWriter", "open", "(I)I"⟩ ∈ gx_G := gx_c3 _ (List.mem_of_getElem? (i := 134) rfl) rfl
theorem gw_615 : Cond.selects "KeypadWriter" ⟨"KeypadWriter", "open", "(I)I"⟩ ⟨"KeypadWriter", "open", "(I)I"⟩ ∈ gx_G := gx_c3 _ (List.mem_of_getElem? (i := 135) rfl) rfl
theorem gw_616 : Cond.code ⟨"KeypadWriter", "open", "(I)I"⟩ prog_1_method_14_code 2 (Option.some FieldType.int) ∈ gx_G := gx_c3 _ (List.mem_of_getElem? (i := 136) rfl) rfl
theorem gw_617 : Cond.methodLink "KeypadWriter" 195 ⟨"KeypadWriter$WrittenText", "has", "(I)Z"⟩ ∈ gx_G := gx_c3 _ (List.mem_of_getElem? (i := 137) rfl) rfl
theorem gw_618 : Cond.classLink "KeypadWriter" 105 "java/lang/IndexOutOfBoundsException" ∈ gx_G := gx_c3 _ (List.mem_of_getElem? (i := 138) rfl) rfl
theorem gw_619 : Cond.instantiable "java/lang/IndexOutOfBoundsException" 6 ∈ gx_G := gx_c3 _ (List.mem_of_getElem? (i := 139) rfl) rfl
theorem gw_621 : Cond.selects "java/lang/IndexOutOfBoundsException" ⟨"java/lang/Throwable", "fillInStackTrace", "(I)Ljava/lang/Throwable;"⟩ ⟨"java/lang/Throwable", "fillInStackTrace", "(I)Ljava/lang/Throwable;"⟩ ∈ gx_G := gx_c3 _ (List.mem_of_getElem? (i := 141) rfl) rfl
theorem gw_622 : Cond.lays "java/lang/IndexOutOfBoundsException" "java/lang/Throwable" "cause" "Ljava/lang/Throwable;" ∈ gx_G := gx_c3 _ (List.mem_of_getElem? (i := 142) rfl) rfl
theorem gw_623 : Cond.lays "java/lang/IndexOutOfBoundsException" "java/lang/Throwable" "stackTrace" "[Ljava/lang/StackTraceElement;" ∈ gx_G := gx_c3 _ (List.mem_of_getElem? (i := 143) rfl) rfl
theorem gw_624 : Cond.lays "java/lang/IndexOutOfBoundsException" "java/lang/Throwable" "suppressedExceptions" "Ljava/util/List;" ∈ gx_G := gx_c3 _ (List.mem_of_getElem? (i := 144) rfl) rfl
theorem gw_625 : Cond.lays "java/lang/IndexOutOfBoundsException" "java/lang/Throwable" "detailMessage" "Ljava/lang/String;" ∈ gx_G := gx_c3 _ (List.mem_of_getElem? (i := 145) rfl) rfl
theorem gw_626 : Cond.lays "java/lang/IndexOutOfBoundsException" "java/lang/Throwable" "backtrace" "Ljava/lang/Object;" ∈ gx_G := gx_c3 _ (List.mem_of_getElem? (i := 146) rfl) rfl
theorem gw_628 : Cond.methodLink "KeypadWriter" 109 ⟨"java/lang/IndexOutOfBoundsException", "<init>", "(Ljava/lang/String;)V"⟩ ∈ gx_G := gx_c3 _ (List.mem_of_getElem? (i := 148) rfl) rfl
theorem gw_629 : Cond.instanceMethod ⟨"java/lang/IndexOutOfBoundsException", "<init>", "(Ljava/lang/String;)V"⟩ ∈ gx_G := gx_c3 _ (List.mem_of_getElem? (i := 149) rfl) rfl
theorem gw_630 : Cond.code ⟨"java/lang/IndexOutOfBoundsException", "<init>", "(Ljava/lang/String;)V"⟩ prog_15_method_2_code 2 none ∈ gx_G := gx_c3 _ (List.mem_of_getElem? (i := 150) rfl) rfl
theorem gw_631 : Cond.methodLink "java/lang/IndexOutOfBoundsException" 7 ⟨"java/lang/RuntimeException", "<init>", "(Ljava/lang/String;)V"⟩ ∈ gx_G := gx_c3 _ (List.mem_of_getElem? (i := 151) rfl) rfl
theorem gw_632 : Cond.lays "java/lang/IndexOutOfBoundsException" "java/lang/Throwable" "depth" "I" ∈ gx_G := gx_c3 _ (List.mem_of_getElem? (i := 152) rfl) rfl
theorem gw_633 : Cond.superclass "java/lang/IndexOutOfBoundsException" "java/lang/RuntimeException" ∈ gx_G := gx_c3 _ (List.mem_of_getElem? (i := 153) rfl) rfl
theorem gw_635 : Cond.methodLink "KeypadWriter" 200 ⟨"KeypadWriter$State", "openWritten", "(I)V"⟩ ∈ gx_G := gx_c3 _ (List.mem_of_getElem? (i := 155) rfl) rfl
theorem gw_636 : Cond.instanceMethod ⟨"KeypadWriter$State", "openWritten", "(I)V"⟩ ∈ gx_G := gx_c3 _ (List.mem_of_getElem? (i := 156) rfl) rfl
theorem gw_637 : Cond.selects "KeypadWriter$State" ⟨"KeypadWriter$State", "openWritten", "(I)V"⟩ ⟨"KeypadWriter$State", "openWritten", "(I)V"⟩ ∈ gx_G := gx_c3 _ (List.mem_of_getElem? (i := 157) rfl) rfl
theorem gw_638 : Cond.code ⟨"KeypadWriter$State", "openWritten", "(I)V"⟩ prog_7_method_7_code 2 none ∈ gx_G := gx_c3 _ (List.mem_of_getElem? (i := 158) rfl) rfl
theorem gw_639 : Cond.methodLink "KeypadWriter$State" 100 ⟨"KeypadWriter$WrittenText", "wordAt", "(I)J"⟩ ∈ gx_G := gx_c3 _ (List.mem_of_getElem? (i := 159) rfl) rfl
theorem gw_640 : Cond.methodLink "KeypadWriterLaw" 49 ⟨"KeypadWriter", "next", "()I"⟩ ∈ gx_G := gx_c3 _ (List.mem_of_getElem? (i := 160) rfl) rfl
theorem gw_641 : Cond.instanceMethod ⟨"KeypadWriter", "next", "()I"⟩ ∈ gx_G := gx_c3 _ (List.mem_of_getElem? (i := 161) rfl) rfl
theorem gw_642 : Cond.selects "KeypadWriter" ⟨"KeypadWriter", "next", "()I"⟩ ⟨"KeypadWriter", "next", "()I"⟩ ∈ gx_G := gx_c3 _ (List.mem_of_getElem? (i := 162) rfl) rfl
theorem gw_643 : Cond.code ⟨"KeypadWriter", "next", "()I"⟩ prog_1_method_11_code 2 (Option.some FieldType.int) ∈ gx_G := gx_c3 _ (List.mem_of_getElem? (i := 163) rfl) rfl
theorem gw_645 : Cond.methodLink "KeypadWriterLaw" 52 ⟨"KeypadWriter", "pause", "()I"⟩ ∈ gx_G := gx_c3 _ (List.mem_of_getElem? (i := 165) rfl) rfl
theorem gw_646 : Cond.instanceMethod ⟨"KeypadWriter", "pause", "()I"⟩ ∈ gx_G := gx_c3 _ (List.mem_of_getElem? (i := 166) rfl) rfl
theorem gw_647 : Cond.selects "KeypadWriter" ⟨"KeypadWriter", "pause", "()I"⟩ ⟨"KeypadWriter", "pause", "()I"⟩ ∈ gx_G := gx_c3 _ (List.mem_of_getElem? (i := 167) rfl) rfl
theorem gw_648 : Cond.code ⟨"KeypadWriter", "pause", "()I"⟩ prog_1_method_9_code 2 (Option.some FieldType.int) ∈ gx_G := gx_c3 _ (List.mem_of_getElem? (i := 168) rfl) rfl
theorem gw_649 : Cond.methodLink "KeypadWriterLaw" 55 ⟨"KeypadWriter", "setWays", "(ZI)I"⟩ ∈ gx_G := gx_c3 _ (List.mem_of_getElem? (i := 169) rfl) rfl
theorem gw_650 : Cond.instanceMethod ⟨"KeypadWriter", "setWays", "(ZI)I"⟩ ∈ gx_G := gx_c3 _ (List.mem_of_getElem? (i := 170) rfl) rfl
theorem gw_651 : Cond.selects "KeypadWriter" ⟨"KeypadWriter", "setWays", "(ZI)I"⟩ ⟨"KeypadWriter", "setWays", "(ZI)I"⟩ ∈ gx_G := gx_c3 _ (List.mem_of_getElem? (i := 171) rfl) rfl
theorem gw_652 : Cond.code ⟨"KeypadWriter", "setWays", "(ZI)I"⟩ prog_1_method_5_code 4 (Option.some FieldType.int) ∈ gx_G := gx_c3 _ (List.mem_of_getElem? (i := 172) rfl) rfl
theorem gw_654 : Cond.methodLink "KeypadWriterLaw" 59 ⟨"KeypadWriter", "press", "(I)I"⟩ ∈ gx_G := gx_c3 _ (List.mem_of_getElem? (i := 174) rfl) rfl
theorem gw_655 : Cond.instanceMethod ⟨"KeypadWriter", "press", "(I)I"⟩ ∈ gx_G := gx_c3 _ (List.mem_of_getElem? (i := 175) rfl) rfl
theorem gw_656 : Cond.selects "KeypadWriter" ⟨"KeypadWriter", "press", "(I)I"⟩ ⟨"KeypadWriter", "press", "(I)I"⟩ ∈ gx_G := gx_c3 _ (List.mem_of_getElem? (i := 176) rfl) rfl
theorem gw_657 : Cond.code ⟨"KeypadWriter", "press", "(I)I"⟩ prog_1_method_8_code 3 (Option.some FieldType.int) ∈ gx_G := gx_c3 _ (List.mem_of_getElem? (i := 177) rfl) rfl
theorem gw_658 : Cond.methodLink "KeypadWriter" 131 ⟨"KeypadWriter$Keys", "isKey", "(I)Z"⟩ ∈ gx_G := gx_c3 _ (List.mem_of_getElem? (i := 178) rfl) rfl
theorem gw_661 : Cond.methodLink "KeypadWriter" 147 ⟨"KeypadWriter$State", "turnLastPlace", "()V"⟩ ∈ gx_G := gx_c3 _ (List.mem_of_getElem? (i := 181) rfl) rfl
theorem gw_662 : Cond.instanceMethod ⟨"KeypadWriter$State", "turnLastPlace", "()V"⟩ ∈ gx_G := gx_c3 _ (List.mem_of_getElem? (i := 182) rfl) rfl
theorem gw_663 : Cond.selects "KeypadWriter$State" ⟨"KeypadWriter$State", "turnLastPlace", "()V"⟩ ⟨"KeypadWriter$State", "turnLastPlace", "()V"⟩ ∈ gx_G := gx_c3 _ (List.mem_of_getElem? (i := 183) rfl) rfl
theorem gw_664 : Cond.code ⟨"KeypadWriter$State", "turnLastPlace", "()V"⟩ prog_7_method_5_code 3 none ∈ gx_G := gx_c3 _ (List.mem_of_getElem? (i := 184) rfl) rfl
theorem gw_665 : Cond.methodLink "KeypadWriter$State" 85 ⟨"KeypadWriter$Slots", "letterAt", "(JI)I"⟩ ∈ gx_G := gx_c3 _ (List.mem_of_getElem? (i := 185) rfl) rfl
theorem gw_666 : Cond.methodLink "KeypadWriter$State" 89 ⟨"KeypadWriter$Keys", "letterBehind", "(I)I"⟩ ∈ gx_G := gx_c3 _ (List.mem_of_getElem? (i := 186) rfl) rfl
theorem gw_667 : Cond.static ⟨"KeypadWriter$Keys", "letterBehind", "(I)I"⟩ ∈ gx_G := gx_c3 _ (List.mem_of_getElem? (i := 187) rfl) rfl
theorem gw_668 : Cond.code ⟨"KeypadWriter$Keys", "letterBehind", "(I)I"⟩ prog_3_method_5_code 2 (Option.some FieldType.int) ∈ gx_G := gx_c3 _ (List.mem_of_getElem? (i := 188) rfl) rfl
theorem gw_669 : Cond.methodLink "KeypadWriter$Keys" 22 ⟨"KeypadWriter$Keys", "keyWith", "(I)I"⟩ ∈ gx_G := gx_c3 _ (List.mem_of_getElem? (i := 189) rfl) rfl
theorem gw_670 : Cond.methodLink "KeypadWriter$Keys" 26 ⟨"KeypadWriter$Keys", "firstLetter", "(I)I"⟩ ∈ gx_G := gx_c3 _ (List.mem_of_getElem? (i := 190) rfl) rfl
theorem gw_671 : Cond.methodLink "KeypadWriter$State" 75 ⟨"KeypadWriter$Slots", "codeOfLetter", "(I)I"⟩ ∈ gx_G := gx_c3 _ (List.mem_of_getElem? (i := 191) rfl) rfl
theorem gw_672 : Cond.methodLink "KeypadWriter$State" 78 ⟨"KeypadWriter$Slots", "with", "(JII)J"⟩ ∈ gx_G := gx_c3 _ (List.mem_of_getElem? (i := 192) rfl) rfl
theorem gw_673 : Cond.methodLink "KeypadWriter" 150 ⟨"KeypadWriter$State", "addPlace", "(I)V"⟩ ∈ gx_G := gx_c3 _ (List.mem_of_getElem? (i := 193) rfl) rfl
theorem gw_674 : Cond.instanceMethod ⟨"KeypadWriter$State", "addPlace", "(I)V"⟩ ∈ gx_G := gx_c3 _ (List.mem_of_getElem? (i := 194) rfl) rfl
theorem gw_675 : Cond.selects "KeypadWriter$State" ⟨"KeypadWriter$State", "addPlace", "(I)V"⟩ ⟨"KeypadWriter$State", "addPlace", "(I)V"⟩ ∈ gx_G := gx_c3 _ (List.mem_of_getElem? (i := 195) rfl) rfl
theorem gw_676 : Cond.code ⟨"KeypadWriter$State", "addPlace", "(I)V"⟩ prog_7_method_4_code 2 none ∈ gx_G := gx_c3 _ (List.mem_of_getElem? (i := 196) rfl) rfl
theorem gw_677 : Cond.methodLink "KeypadWriter$State" 69 ⟨"KeypadWriter$Keys", "firstLetter", "(I)I"⟩ ∈ gx_G := gx_c3 _ (List.mem_of_getElem? (i := 197) rfl) rfl
theorem gw_678 : Cond.methodLink "KeypadWriter$State" 82 ⟨"KeypadWriter$Slots", "codeOfKey", "(I)I"⟩ ∈ gx_G := gx_c3 _ (List.mem_of_getElem? (i := 198) rfl) rfl
theorem gw_679 : Cond.methodLink "KeypadWriterLaw" 103 ⟨"KeypadWriterLaw", "areAlike", "(LKeypadWriter;LKeypadWriter;)Z"⟩ ∈ gx_G := gx_c3 _ (List.mem_of_getElem? (i := 199) rfl) rfl
theorem gw_680 : Cond.static ⟨"KeypadWriterLaw", "areAlike", "(LKeypadWriter;LKeypadWriter;)Z"⟩ ∈ gx_G := gx_c3 _ (List.mem_of_getElem? (i := 200) rfl) rfl
theorem gw_681 : Cond.code ⟨"KeypadWriterLaw", "areAlike", "(LKeypadWriter;LKeypadWriter;)Z"⟩ method_8_code 6 (Option.some FieldType.boolean) ∈ gx_G := gx_c3 _ (List.mem_of_getElem? (i := 201) rfl) rfl
theorem gw_682 : Cond.methodLink "KeypadWriterLaw" 74 ⟨"KeypadWriter", "clashing", "()I"⟩ ∈ gx_G := gx_c3 _ (List.mem_of_getElem? (i := 202) rfl) rfl
theorem gw_683 : Cond.instanceMethod ⟨"KeypadWriter", "clashing", "()I"⟩ ∈ gx_G := gx_c3 _ (List.mem_of_getElem? (i := 203) rfl) rfl
theorem gw_684 : Cond.selects "KeypadWriter" ⟨"KeypadWriter", "clashing", "()I"⟩ ⟨"KeypadWriter", "clashing", "()I"⟩ ∈ gx_G := gx_c3 _ (List.mem_of_getElem? (i := 204) rfl) rfl
theorem gw_685 : Cond.code ⟨"KeypadWriter", "clashing", "()I"⟩ prog_1_method_22_code 1 (Option.some FieldType.int) ∈ gx_G := gx_c3 _ (List.mem_of_getElem? (i := 205) rfl) rfl
theorem gw_686 : Cond.methodLink "KeypadWriter" 234 ⟨"KeypadWriter$WordList", "clashes", "()I"⟩ ∈ gx_G := gx_c3 _ (List.mem_of_getElem? (i := 206) rfl) rfl
theorem gw_687 : Cond.instanceMethod ⟨"KeypadWriter$WordList", "clashes", "()I"⟩ ∈ gx_G := gx_c3 _ (List.mem_of_getElem? (i := 207) rfl) rfl
theorem gw_688 : Cond.selects "KeypadWriter$WordList" ⟨"KeypadWriter$WordList", "clashes", "()I"⟩ ⟨"KeypadWriter$WordList", "clashes", "()I"⟩ ∈ gx_G := gx_c3 _ (List.mem_of_getElem? (i := 208) rfl) rfl
theorem gw_689 : Cond.code ⟨"KeypadWriter$WordList", "clashes", "()I"⟩ prog_8_method_24_code 3 (Option.some FieldType.int) ∈ gx_G := gx_c3 _ (List.mem_of_getElem? (i := 209) rfl) rfl
theorem gw_690 : Cond.methodLink "KeypadWriter$WordList" 117 ⟨"KeypadWriter$WordList", "sharesKeys", "(I)Z"⟩ ∈ gx_G := gx_c3 _ (List.mem_of_getElem? (i := 210) rfl) rfl
theorem gw_692 : Cond.instanceMethod ⟨"KeypadWriter$WordList", "sharesKeys", "(I)Z"⟩ ∈ gx_G := gx_c3 _ (List.mem_of_getElem? (i := 212) rfl) rfl
theorem gw_693 : Cond.code ⟨"KeypadWriter$WordList", "sharesKeys", "(I)Z"⟩ prog_8_method_25_code 3 (Option.some FieldType.boolean) ∈ gx_G := gx_c3 _ (List.mem_of_getElem? (i := 213) rfl) rfl
theorem gw_694 : Cond.methodLink "KeypadWriterLaw" 77 ⟨"KeypadWriter", "saving", "()D"⟩ ∈ gx_G := gx_c3 _ (List.mem_of_getElem? (i := 214) rfl) rfl
theorem gw_695 : Cond.instanceMethod ⟨"KeypadWriter", "saving", "()D"⟩ ∈ gx_G := gx_c3 _ (List.mem_of_getElem? (i := 215) rfl) rfl
theorem gw_696 : Cond.selects "KeypadWriter" ⟨"KeypadWriter", "saving", "()D"⟩ ⟨"KeypadWriter", "saving", "()D"⟩ ∈ gx_G := gx_c3 _ (List.mem_of_getElem? (i := 216) rfl) rfl
theorem gw_697 : Cond.code ⟨"KeypadWriter", "saving", "()D"⟩ prog_1_method_23_code 1 (Option.some FieldType.double) ∈ gx_G := gx_c3 _ (List.mem_of_getElem? (i := 217) rfl) rfl
theorem gw_698 : Cond.methodLink "KeypadWriter" 237 ⟨"KeypadWriter$WordList", "savingOfAll", "()D"⟩ ∈ gx_G := gx_c3 _ (List.mem_of_getElem? (i := 218) rfl) rfl
theorem gw_699 : Cond.instanceMethod ⟨"KeypadWriter$WordList", "savingOfAll", "()D"⟩ ∈ gx_G := gx_c3 _ (List.mem_of_getElem? (i := 219) rfl) rfl
theorem gw_700 : Cond.selects "KeypadWriter$WordList" ⟨"KeypadWriter$WordList", "savingOfAll", "()D"⟩ ⟨"KeypadWriter$WordList", "savingOfAll", "()D"⟩ ∈ gx_G := gx_c3 _ (List.mem_of_getElem? (i := 220) rfl) rfl
theorem gw_701 : Cond.code ⟨"KeypadWriter$WordList", "savingOfAll", "()D"⟩ prog_8_method_26_code 10 (Option.some FieldType.double) ∈ gx_G := gx_c3 _ (List.mem_of_getElem? (i := 221) rfl) rfl
theorem gw_702 : Cond.methodLink "KeypadWriter$WordList" 120 ⟨"KeypadWriter$WordList", "tapsFor", "(I)I"⟩ ∈ gx_G := gx_c3 _ (List.mem_of_getElem? (i := 222) rfl) rfl
theorem gw_703 : Cond.instanceMethod ⟨"KeypadWriter$WordList", "tapsFor", "(I)I"⟩ ∈ gx_G := gx_c3 _ (List.mem_of_getElem? (i := 223) rfl) rfl
theorem gw_704 : Cond.selects "KeypadWriter$WordList" ⟨"KeypadWriter$WordList", "tapsFor", "(I)I"⟩ ⟨"KeypadWriter$WordList", "tapsFor", "(I)I"⟩ ∈ gx_G := gx_c3 _ (List.mem_of_getElem? (i := 224) rfl) rfl
theorem gw_705 : Cond.code ⟨"KeypadWriter$WordList", "tapsFor", "(I)I"⟩ prog_8_method_23_code 9 (Option.some FieldType.int) ∈ gx_G := gx_c3 _ (List.mem_of_getElem? (i := 225) rfl) rfl
theorem gw_706 : Cond.methodLink "KeypadWriter$WordList" 109 ⟨"KeypadWriter$Slots", "letterAt", "(JI)I"⟩ ∈ gx_G := gx_c3 _ (List.mem_of_getElem? (i := 226) rfl) rfl
theorem gw_707 : Cond.methodLink "KeypadWriter$WordList" 112 ⟨"KeypadWriter$Keys", "tapsOf", "(I)I"⟩ ∈ gx_G := gx_c3 _ (List.mem_of_getElem? (i := 227) rfl) rfl
theorem gw_708 : Cond.static ⟨"KeypadWriter$Keys", "tapsOf", "(I)I"⟩ ∈ gx_G := gx_c3 _ (List.mem_of_getElem? (i := 228) rfl) rfl
theorem gw_709 : Cond.code ⟨"KeypadWriter$Keys", "tapsOf", "(I)I"⟩ prog_3_method_6_code 1 (Option.some FieldType.int) ∈ gx_G := gx_c3 _ (List.mem_of_getElem? (i := 229) rfl) rfl
theorem gw_710 : Cond.methodLink "KeypadWriter$WordList" 123 ⟨"KeypadWriter$WordList", "guessesFor", "(I)I"⟩ ∈ gx_G := gx_c3 _ (List.mem_of_getElem? (i := 230) rfl) rfl
theorem gw_711 : Cond.instanceMethod ⟨"KeypadWriter$WordList", "guessesFor", "(I)I"⟩ ∈ gx_G := gx_c3 _ (List.mem_of_getElem? (i := 231) rfl) rfl
theorem gw_712 : Cond.selects "KeypadWriter$WordList" ⟨"KeypadWriter$WordList", "guessesFor", "(I)I"⟩ ⟨"KeypadWriter$WordList", "guessesFor", "(I)I"⟩ ∈ gx_G := gx_c3 _ (List.mem_of_getElem? (i := 232) rfl) rfl
theorem gw_713 : Cond.code ⟨"KeypadWriter$WordList", "guessesFor", "(I)I"⟩ prog_8_method_22_code 2 (Option.some FieldType.int) ∈ gx_G := gx_c3 _ (List.mem_of_getElem? (i := 233) rfl) rfl
theorem gw_714 : Cond.methodLink "KeypadWriter$WordList" 106 ⟨"KeypadWriter$WordList", "stepsTo", "(I)I"⟩ ∈ gx_G := gx_c3 _ (List.mem_of_getElem? (i := 234) rfl) rfl
theorem gw_715 : Cond.methodLink "KeypadWriterLaw" 81 ⟨"KeypadWriter", "candidate", "(I)I"⟩ ∈ gx_G := gx_c3 _ (List.mem_of_getElem? (i := 235) rfl) rfl
theorem gw_716 : Cond.instanceMethod ⟨"KeypadWriter", "candidate", "(I)I"⟩ ∈ gx_G := gx_c3 _ (List.mem_of_getElem? (i := 236) rfl) rfl
theorem gw_717 : Cond.selects "KeypadWriter" ⟨"KeypadWriter", "candidate", "(I)I"⟩ ⟨"KeypadWriter", "candidate", "(I)I"⟩ ∈ gx_G := gx_c3 _ (List.mem_of_getElem? (i := 237) rfl) rfl
theorem gw_718 : Cond.code ⟨"KeypadWriter", "candidate", "(I)I"⟩ prog_1_method_18_code 2 (Option.some FieldType.int) ∈ gx_G := gx_c3 _ (List.mem_of_getElem? (i := 238) rfl) rfl
theorem gw_720 : Cond.methodLink "KeypadWriterLaw" 84 ⟨"KeypadWriterLaw", "isWord", "(LKeypadWriter;ILKeypadWriter;I)Z"⟩ ∈ gx_G := gx_c4 _ (List.mem_of_getElem? (i := 0) rfl) rfl
theorem gw_721 : Cond.static ⟨"KeypadWriterLaw", "isWord", "(LKeypadWriter;ILKeypadWriter;I)Z"⟩ ∈ gx_G := gx_c4 _ (List.mem_of_getElem? (i := 1) rfl) rfl
theorem gw_722 : Cond.code ⟨"KeypadWriterLaw", "isWord", "(LKeypadWriter;ILKeypadWriter;I)Z"⟩ method_7_code 6 (Option.some FieldType.boolean) ∈ gx_G := gx_c4 _ (List.mem_of_getElem? (i := 2) rfl) rfl
theorem gw_723 : Cond.methodLink "KeypadWriterLaw" 62 ⟨"KeypadWriter", "word", "(II)I"⟩ ∈ gx_G := gx_c4 _ (List.mem_of_getElem? (i := 3) rfl) rfl
theorem gw_724 : Cond.instanceMethod ⟨"KeypadWriter", "word", "(II)I"⟩ ∈ gx_G := gx_c4 _ (List.mem_of_getElem? (i := 4) rfl) rfl
theorem gw_725 : Cond.selects "KeypadWriter" ⟨"KeypadWriter", "word", "(II)I"⟩ ⟨"KeypadWriter", "word", "(II)I"⟩ ∈ gx_G := gx_c4 _ (List.mem_of_getElem? (i := 5) rfl) rfl
theorem gw_726 : Cond.code ⟨"KeypadWriter", "word", "(II)I"⟩ prog_1_method_6_code 3 (Option.some FieldType.int) ∈ gx_G := gx_c4 _ (List.mem_of_getElem? (i := 6) rfl) rfl
theorem gw_727 : Cond.methodLink "KeypadWriter" 101 ⟨"KeypadWriter$WordList", "has", "(I)Z"⟩ ∈ gx_G := gx_c4 _ (List.mem_of_getElem? (i := 7) rfl) rfl
theorem gw_730 : Cond.methodLink "KeypadWriterLaw" 65 ⟨"KeypadWriter", "letter", "(II)I"⟩ ∈ gx_G := gx_c4 _ (List.mem_of_getElem? (i := 10) rfl) rfl
theorem gw_731 : Cond.instanceMethod ⟨"KeypadWriter", "letter", "(II)I"⟩ ∈ gx_G := gx_c4 _ (List.mem_of_getElem? (i := 11) rfl) rfl
theorem gw_732 : Cond.selects "KeypadWriter" ⟨"KeypadWriter", "letter", "(II)I"⟩ ⟨"KeypadWriter", "letter", "(II)I"⟩ ∈ gx_G := gx_c4 _ (List.mem_of_getElem? (i := 12) rfl) rfl
theorem gw_733 : Cond.code ⟨"KeypadWriter", "letter", "(II)I"⟩ prog_1_method_7_code 5 (Option.some FieldType.int) ∈ gx_G := gx_c4 _ (List.mem_of_getElem? (i := 13) rfl) rfl
theorem gw_734 : Cond.methodLink "KeypadWriter" 120 ⟨"KeypadWriter$Slots", "has", "(JI)Z"⟩ ∈ gx_G := gx_c4 _ (List.mem_of_getElem? (i := 14) rfl) rfl
theorem gw_736 : Cond.methodLink "KeypadWriterLaw" 68 ⟨"KeypadWriter", "steps", "(I)I"⟩ ∈ gx_G := gx_c4 _ (List.mem_of_getElem? (i := 16) rfl) rfl
theorem gw_737 : Cond.instanceMethod ⟨"KeypadWriter", "steps", "(I)I"⟩ ∈ gx_G := gx_c4 _ (List.mem_of_getElem? (i := 17) rfl) rfl
theorem gw_738 : Cond.selects "KeypadWriter" ⟨"KeypadWriter", "steps", "(I)I"⟩ ⟨"KeypadWriter", "steps", "(I)I"⟩ ∈ gx_G := gx_c4 _ (List.mem_of_getElem? (i := 18) rfl) rfl
theorem gw_739 : Cond.code ⟨"KeypadWriter", "steps", "(I)I"⟩ prog_1_method_20_code 2 (Option.some FieldType.int) ∈ gx_G := gx_c4 _ (List.mem_of_getElem? (i := 19) rfl) rfl
theorem gw_740 : Cond.methodLink "KeypadWriterLaw" 71 ⟨"KeypadWriter", "shortest", "(I)I"⟩ ∈ gx_G := gx_c4 _ (List.mem_of_getElem? (i := 20) rfl) rfl
theorem gw_741 : Cond.instanceMethod ⟨"KeypadWriter", "shortest", "(I)I"⟩ ∈ gx_G := gx_c4 _ (List.mem_of_getElem? (i := 21) rfl) rfl
theorem gw_742 : Cond.selects "KeypadWriter" ⟨"KeypadWriter", "shortest", "(I)I"⟩ ⟨"KeypadWriter", "shortest", "(I)I"⟩ ∈ gx_G := gx_c4 _ (List.mem_of_getElem? (i := 22) rfl) rfl
theorem gw_743 : Cond.code ⟨"KeypadWriter", "shortest", "(I)I"⟩ prog_1_method_24_code 6 (Option.some FieldType.int) ∈ gx_G := gx_c4 _ (List.mem_of_getElem? (i := 23) rfl) rfl
theorem gw_744 : Cond.methodLink "KeypadWriter" 241 ⟨"KeypadWriter$WordList", "keysAt", "(I)J"⟩ ∈ gx_G := gx_c4 _ (List.mem_of_getElem? (i := 24) rfl) rfl
theorem gw_745 : Cond.methodLink "KeypadWriter" 244 ⟨"KeypadWriter$Candidates", "firstWith", "(LKeypadWriter$WordList;J)I"⟩ ∈ gx_G := gx_c4 _ (List.mem_of_getElem? (i := 25) rfl) rfl
theorem gw_746 : Cond.static ⟨"KeypadWriter$Candidates", "firstWith", "(LKeypadWriter$WordList;J)I"⟩ ∈ gx_G := gx_c4 _ (List.mem_of_getElem? (i := 26) rfl) rfl
theorem gw_747 : Cond.code ⟨"KeypadWriter$Candidates", "firstWith", "(LKeypadWriter$WordList;J)I"⟩ prog_2_method_5_code 6 (Option.some FieldType.int) ∈ gx_G := gx_c4 _ (List.mem_of_getElem? (i := 27) rfl) rfl
theorem gw_748 : Cond.methodLink "KeypadWriter$Candidates" 62 ⟨"KeypadWriter$Slots", "lengthOf", "(J)I"⟩ ∈ gx_G := gx_c4 _ (List.mem_of_getElem? (i := 28) rfl) rfl
theorem gw_749 : Cond.methodLink "KeypadWriterLaw" 88 ⟨"KeypadWriter", "display", "(I)I"⟩ ∈ gx_G := gx_c4 _ (List.mem_of_getElem? (i := 29) rfl) rfl
theorem gw_750 : Cond.instanceMethod ⟨"KeypadWriter", "display", "(I)I"⟩ ∈ gx_G := gx_c4 _ (List.mem_of_getElem? (i := 30) rfl) rfl
theorem gw_751 : Cond.selects "KeypadWriter" ⟨"KeypadWriter", "display", "(I)I"⟩ ⟨"KeypadWriter", "display", "(I)I"⟩ ∈ gx_G := gx_c4 _ (List.mem_of_getElem? (i := 31) rfl) rfl
theorem gw_752 : Cond.code ⟨"KeypadWriter", "display", "(I)I"⟩ prog_1_method_17_code 4 (Option.some FieldType.int) ∈ gx_G := gx_c4 _ (List.mem_of_getElem? (i := 32) rfl) rfl
theorem gw_754 : Cond.methodLink "KeypadWriterLaw" 91 ⟨"KeypadWriter", "written", "(II)I"⟩ ∈ gx_G := gx_c4 _ (List.mem_of_getElem? (i := 34) rfl) rfl
theorem gw_755 : Cond.instanceMethod ⟨"KeypadWriter", "written", "(II)I"⟩ ∈ gx_G := gx_c4 _ (List.mem_of_getElem? (i := 35) rfl) rfl
theorem gw_756 : Cond.selects "KeypadWriter" ⟨"KeypadWriter", "written", "(II)I"⟩ ⟨"KeypadWriter", "written", "(II)I"⟩ ∈ gx_G := gx_c4 _ (List.mem_of_getElem? (i := 36) rfl) rfl
theorem gw_757 : Cond.code ⟨"KeypadWriter", "written", "(II)I"⟩ prog_1_method_19_code 5 (Option.some FieldType.int) ∈ gx_G := gx_c4 _ (List.mem_of_getElem? (i := 37) rfl) rfl
theorem gw_758 : Cond.methodLink "KeypadWriterLaw" 111 ⟨"KeypadWriterLaw", "isSound", "(LKeypadWriter;)Z"⟩ ∈ gx_G := gx_c4 _ (List.mem_of_getElem? (i := 38) rfl) rfl
theorem gw_759 : Cond.static ⟨"KeypadWriterLaw", "isSound", "(LKeypadWriter;)Z"⟩ ∈ gx_G := gx_c4 _ (List.mem_of_getElem? (i := 39) rfl) rfl
theorem gw_760 : Cond.code ⟨"KeypadWriterLaw", "isSound", "(LKeypadWriter;)Z"⟩ method_9_code 6 (Option.some FieldType.boolean) ∈ gx_G := gx_c4 _ (List.mem_of_getElem? (i := 40) rfl) rfl
theorem gw_761 : Cond.methodLink "KeypadWriterLaw" 94 ⟨"KeypadWriter", "presses", "(IZ)I"⟩ ∈ gx_G := gx_c4 _ (List.mem_of_getElem? (i := 41) rfl) rfl
theorem gw_762 : Cond.instanceMethod ⟨"KeypadWriter", "presses", "(IZ)I"⟩ ∈ gx_G := gx_c4 _ (List.mem_of_getElem? (i := 42) rfl) rfl
theorem gw_763 : Cond.selects "KeypadWriter" ⟨"KeypadWriter", "presses", "(IZ)I"⟩ ⟨"KeypadWriter", "presses", "(IZ)I"⟩ ∈ gx_G := gx_c4 _ (List.mem_of_getElem? (i := 43) rfl) rfl
theorem gw_764 : Cond.code ⟨"KeypadWriter", "presses", "(IZ)I"⟩ prog_1_method_21_code 3 (Option.some FieldType.int) ∈ gx_G := gx_c4 _ (List.mem_of_getElem? (i := 44) rfl) rfl
theorem gw_765 : Cond.methodLink "KeypadWriter" 228 ⟨"KeypadWriter$WordList", "tapsFor", "(I)I"⟩ ∈ gx_G := gx_c4 _ (List.mem_of_getElem? (i := 45) rfl) rfl
theorem gw_766 : Cond.methodLink "KeypadWriter" 231 ⟨"KeypadWriter$WordList", "guessesFor", "(I)I"⟩ ∈ gx_G := gx_c4 _ (List.mem_of_getElem? (i := 46) rfl) rfl
theorem gw_native_arraycopy : Cond.native arraycopyName ∈ gx_G := gw_212
theorem gw_static_arraycopy : Cond.static arraycopyName ∈ gx_G := gw_211
theorem gw_init_System : Cond.initialized "java/lang/System" ∈ gx_G := gw_15
/-- words that speak of nest mates and casts: they stay said while the machine warms up -/
theorem gx_n1 (w : Cond) (h : w ∈ tables_1_1) : w ∈ lw_tbl := List.mem_append_right _ (List.mem_append_left _ h)
theorem gx_n2 (w : Cond) (h : w ∈ tables_1_2) : w ∈ lw_tbl := List.mem_append_right _ (List.mem_append_right _ (List.mem_append_left _ h))
theorem gx_n3 (w : Cond) (h : w ∈ tables_1_3) : w ∈ lw_tbl := List.mem_append_right _ (List.mem_append_right _ (List.mem_append_right _ (List.mem_append_left _ h)))
theorem gx_n4 (w : Cond) (h : w ∈ tables_1_4) : w ∈ lw_tbl := List.mem_append_right _ (List.mem_append_right _ (List.mem_append_right _ (List.mem_append_right _ (h))))
def gx_nest : List Cond := [Cond.methodLinkNest "KeypadWriter" 9 ⟨"KeypadWriter$ListText", "<init>", "()V"⟩ "KeypadWriter", Cond.fieldLinkNest "KeypadWriter" 64 "KeypadWriter$ListText" "length" "I" "KeypadWriter", Cond.methodLinkNest "KeypadWriter" 18 ⟨"KeypadWriter$WordList", "<init>", "()V"⟩ "KeypadWriter", Cond.fieldLinkNest "KeypadWriter$Candidates" 29 "KeypadWriter$WordList" "size" "I" "KeypadWriter", Cond.fieldLinkNest "KeypadWriter" 89 "KeypadWriter$WordList" "size" "I" "KeypadWriter", Cond.methodLinkNest "KeypadWriter" 25 ⟨"KeypadWriter$State", "<init>", "()V"⟩ "KeypadWriter", Cond.methodLinkNest "KeypadWriter$State" 11 ⟨"KeypadWriter$WordList", "<init>", "()V"⟩ "KeypadWriter", Cond.methodLinkNest "KeypadWriter$State" 20 ⟨"KeypadWriter$WrittenText", "<init>", "()V"⟩ "KeypadWriter", Cond.fieldLinkNest "KeypadWriter" 186 "KeypadWriter$WrittenText" "size" "I" "KeypadWriter", Cond.fieldLinkNest "KeypadWriter$Candidates" 25 "KeypadWriter$State" "list" "LKeypadWriter$WordList;" "KeypadWriter", Cond.fieldLinkNest "KeypadWriter" 79 "KeypadWriter$State" "list" "LKeypadWriter$WordList;" "KeypadWriter", Cond.fieldLinkNest "KeypadWriter" 182 "KeypadWriter$State" "text" "LKeypadWriter$WrittenText;" "KeypadWriter", Cond.fieldLinkNest "KeypadWriter" 268 "KeypadWriter$State" "clock" "I" "KeypadWriter", Cond.fieldLinkNest "KeypadWriter" 94 "KeypadWriter$State" "ageing" "I" "KeypadWriter", Cond.fieldLinkNest "KeypadWriter$Candidates" 42 "KeypadWriter$State" "completing" "Z" "KeypadWriter", Cond.fieldLinkNest "KeypadWriter" 97 "KeypadWriter$State" "completing" "Z" "KeypadWriter", Cond.fieldLinkNest "KeypadWriter" 165 "KeypadWriter$State" "tapping" "Z" "KeypadWriter", Cond.fieldLinkNest "KeypadWriter" 138 "KeypadWriter$State" "pending" "I" "KeypadWriter", Cond.fieldLinkNest "KeypadWriter$Candidates" 46 "KeypadWriter$State" "present" "J" "KeypadWriter", Cond.fieldLinkNest "KeypadWriter" 161 "KeypadWriter$State" "present" "J" "KeypadWriter", Cond.fieldLinkNest "KeypadWriter" 86 "KeypadWriter$State" "chosen" "I" "KeypadWriter", Cond.fieldLinkNest "KeypadWriter" 179 "KeypadWriter$State" "opened" "I" "KeypadWriter", Cond.methodLinkNest "KeypadWriter$SavedStates" 17 ⟨"KeypadWriter$State", "<init>", "()V"⟩ "KeypadWriter", Cond.fieldLinkNest "KeypadWriter" 248 "KeypadWriter$SavedStates" "size" "I" "KeypadWriter", Cond.methodLinkNest "KeypadWriter" 39 ⟨"KeypadWriter$Candidates", "<init>", "()V"⟩ "KeypadWriter", Cond.fieldLinkNest "KeypadWriter" 171 "KeypadWriter$Candidates" "size" "I" "KeypadWriter", Cond.castable "java/lang/IllegalArgumentException" "java/lang/IllegalArgumentException", Cond.declares ⟨"java/lang/RuntimeException", "<init>", "()V"⟩, Cond.declares ⟨"java/lang/RuntimeException", "<init>", "(Ljava/lang/String;)V"⟩, Cond.declares ⟨"java/lang/Exception", "<init>", "()V"⟩, Cond.declares ⟨"java/lang/Exception", "<init>", "(Ljava/lang/String;)V"⟩, Cond.declares ⟨"java/lang/Throwable", "<init>", "()V"⟩, Cond.declares ⟨"java/lang/Throwable", "<init>", "(Ljava/lang/String;)V"⟩, Cond.castable "java/lang/IllegalStateException" "java/lang/IllegalStateException", Cond.castable "java/lang/IndexOutOfBoundsException" "java/lang/IndexOutOfBoundsException"]
theorem gx_nest_in : ∀ w ∈ gx_nest, w ∈ lw_tbl := List.forall_mem_cons.mpr ⟨gx_n1 _ (List.mem_of_getElem? (i := 28) rfl), List.forall_mem_cons.mpr ⟨gx_n1 _ (List.mem_of_getElem? (i := 34) rfl), List.forall_mem_cons.mpr ⟨gx_n1 _ (List.mem_of_getElem? (i := 46) rfl), List.forall_mem_cons.mpr ⟨gx_n1 _ (List.mem_of_getElem? (i := 56) rfl), List.forall_mem_cons.mpr ⟨gx_n1 _ (List.mem_of_getElem? (i := 57) rfl), List.forall_mem_cons.mpr ⟨gx_n1 _ (List.mem_of_getElem? (i := 75) rfl), List.forall_mem_cons.mpr ⟨gx_n1 _ (List.mem_of_getElem? (i := 80) rfl), List.forall_mem_cons.mpr ⟨gx_n1 _ (List.mem_of_getElem? (i := 83) rfl), List.forall_mem_cons.mpr ⟨gx_n1 _ (List.mem_of_getElem? (i := 89) rfl), List.forall_mem_cons.mpr ⟨gx_n1 _ (List.mem_of_getElem? (i := 96) rfl), List.forall_mem_cons.mpr ⟨gx_n1 _ (List.mem_of_getElem? (i := 97) rfl), List.forall_mem_cons.mpr ⟨gx_n1 _ (List.mem_of_getElem? (i := 99) rfl), List.forall_mem_cons.mpr ⟨gx_n1 _ (List.mem_of_getElem? (i := 101) rfl), List.forall_mem_cons.mpr ⟨gx_n1 _ (List.mem_of_getElem? (i := 103) rfl), List.forall_mem_cons.mpr ⟨gx_n1 _ (List.mem_of_getElem? (i := 105) rfl), List.forall_mem_cons.mpr ⟨gx_n1 _ (List.mem_of_getElem? (i := 106) rfl), List.forall_mem_cons.mpr ⟨gx_n1 _ (List.mem_of_getElem? (i := 108) rfl), List.forall_mem_cons.mpr ⟨gx_n1 _ (List.mem_of_getElem? (i := 110) rfl), List.forall_mem_cons.mpr ⟨gx_n1 _ (List.mem_of_getElem? (i := 112) rfl), List.forall_mem_cons.mpr ⟨gx_n1 _ (List.mem_of_getElem? (i := 113) rfl), List.forall_mem_cons.mpr ⟨gx_n1 _ (List.mem_of_getElem? (i := 115) rfl), List.forall_mem_cons.mpr ⟨gx_n1 _ (List.mem_of_getElem? (i := 117) rfl), List.forall_mem_cons.mpr ⟨gx_n1 _ (List.mem_of_getElem? (i := 147) rfl), List.forall_mem_cons.mpr ⟨gx_n1 _ (List.mem_of_getElem? (i := 150) rfl), List.forall_mem_cons.mpr ⟨gx_n1 _ (List.mem_of_getElem? (i := 158) rfl), List.forall_mem_cons.mpr ⟨gx_n1 _ (List.mem_of_getElem? (i := 164) rfl), List.forall_mem_cons.mpr ⟨gx_n2 _ (List.mem_of_getElem? (i := 69) rfl), List.forall_mem_cons.mpr ⟨gx_n2 _ (List.mem_of_getElem? (i := 70) rfl), List.forall_mem_cons.mpr ⟨gx_n2 _ (List.mem_of_getElem? (i := 71) rfl), List.forall_mem_cons.mpr ⟨gx_n2 _ (List.mem_of_getElem? (i := 72) rfl), List.forall_mem_cons.mpr ⟨gx_n2 _ (List.mem_of_getElem? (i := 73) rfl), List.forall_mem_cons.mpr ⟨gx_n2 _ (List.mem_of_getElem? (i := 74) rfl), List.forall_mem_cons.mpr ⟨gx_n2 _ (List.mem_of_getElem? (i := 75) rfl), List.forall_mem_cons.mpr ⟨gx_n2 _ (List.mem_of_getElem? (i := 145) rfl), List.forall_mem_cons.mpr ⟨gx_n3 _ (List.mem_of_getElem? (i := 140) rfl), fun _ h => absurd h List.not_mem_nil⟩⟩⟩⟩⟩⟩⟩⟩⟩⟩⟩⟩⟩⟩⟩⟩⟩⟩⟩⟩⟩⟩⟩⟩⟩⟩⟩⟩⟩⟩⟩⟩⟩⟩⟩
theorem gx_nest_on : ∀ w ∈ gx_nest, w.onTables = true := by decide +kernel
theorem gx_nest_warm {s U : State} (w : Cond) (hw : w ∈ gx_nest) (hW : s.WarmedH U.vm) (h : va_Nw w s) : va_Nw w U := (show ∀ w ∈ gx_nest, va_Nw w s → va_Nw w U from List.forall_mem_cons.mpr ⟨fun h => va_Nw.warmM hW h, List.forall_mem_cons.mpr ⟨fun h => va_Nw.warmF hW h, List.forall_mem_cons.mpr ⟨fun h => va_Nw.warmM hW h, List.forall_mem_cons.mpr ⟨fun h => va_Nw.warmF hW h, List.forall_mem_cons.mpr ⟨fun h => va_Nw.warmF hW h, List.forall_mem_cons.mpr ⟨fun h => va_Nw.warmM hW h, List.forall_mem_cons.mpr ⟨fun h => va_Nw.warmM hW h, List.forall_mem_cons.mpr ⟨fun h => va_Nw.warmM hW h, List.forall_mem_cons.mpr ⟨fun h => va_Nw.warmF hW h, List.forall_mem_cons.mpr ⟨fun h => va_Nw.warmF hW h, List.forall_mem_cons.mpr ⟨fun h => va_Nw.warmF hW h, List.forall_mem_cons.mpr ⟨fun h => va_Nw.warmF hW h, List.forall_mem_cons.mpr ⟨fun h => va_Nw.warmF hW h, List.forall_mem_cons.mpr ⟨fun h => va_Nw.warmF hW h, List.forall_mem_cons.mpr ⟨fun h => va_Nw.warmF hW h, List.forall_mem_cons.mpr ⟨fun h => va_Nw.warmF hW h, List.forall_mem_cons.mpr ⟨fun h => va_Nw.warmF hW h, List.forall_mem_cons.mpr ⟨fun h => va_Nw.warmF hW h, List.forall_mem_cons.mpr ⟨fun h => va_Nw.warmF hW h, List.forall_mem_cons.mpr ⟨fun h => va_Nw.warmF hW h, List.forall_mem_cons.mpr ⟨fun h => va_Nw.warmF hW h, List.forall_mem_cons.mpr ⟨fun h => va_Nw.warmF hW h, List.forall_mem_cons.mpr ⟨fun h => va_Nw.warmM hW h, List.forall_mem_cons.mpr ⟨fun h => va_Nw.warmF hW h, List.forall_mem_cons.mpr ⟨fun h => va_Nw.warmM hW h, List.forall_mem_cons.mpr ⟨fun h => va_Nw.warmF hW h, List.forall_mem_cons.mpr ⟨fun h => va_Nw.warmC hW h, List.forall_mem_cons.mpr ⟨fun h => va_Nw.warmD hW h, List.forall_mem_cons.mpr ⟨fun h => va_Nw.warmD hW h, List.forall_mem_cons.mpr ⟨fun h => va_Nw.warmD hW h, List.forall_mem_cons.mpr ⟨fun h => va_Nw.warmD hW h, List.forall_mem_cons.mpr ⟨fun h => va_Nw.warmD hW h, List.forall_mem_cons.mpr ⟨fun h => va_Nw.warmD hW h, List.forall_mem_cons.mpr ⟨fun h => va_Nw.warmC hW h, List.forall_mem_cons.mpr ⟨fun h => va_Nw.warmC hW h, fun _ h => absurd h List.not_mem_nil⟩⟩⟩⟩⟩⟩⟩⟩⟩⟩⟩⟩⟩⟩⟩⟩⟩⟩⟩⟩⟩⟩⟩⟩⟩⟩⟩⟩⟩⟩⟩⟩⟩⟩⟩) w hw h
theorem gx_nest0 {U : State} (h : ∀ w ∈ gx_nest, va_Nw w U) : va_Nw (Cond.methodLinkNest "KeypadWriter" 9 ⟨"KeypadWriter$ListText", "<init>", "()V"⟩ "KeypadWriter") U := h _ (List.mem_of_getElem? (i := 0) rfl)
theorem gx_nest1 {U : State} (h : ∀ w ∈ gx_nest, va_Nw w U) : va_Nw (Cond.fieldLinkNest "KeypadWriter" 64 "KeypadWriter$ListText" "length" "I" "KeypadWriter") U := h _ (List.mem_of_getElem? (i := 1) rfl)
theorem gx_nest2 {U : State} (h : ∀ w ∈ gx_nest, va_Nw w U) : va_Nw (Cond.methodLinkNest "KeypadWriter" 18 ⟨"KeypadWriter$WordList", "<init>", "()V"⟩ "KeypadWriter") U := h _ (List.mem_of_getElem? (i := 2) rfl)
theorem gx_nest3 {U : State} (h : ∀ w ∈ gx_nest, va_Nw w U) : va_Nw (Cond.fieldLinkNest "KeypadWriter$Candidates" 29 "KeypadWriter$WordList" "size" "I" "KeypadWriter") U := h _ (List.mem_of_getElem? (i := 3) rfl)
theorem gx_nest4 {U : State} (h : ∀ w ∈ gx_nest, va_Nw w U) : va_Nw (Cond.fieldLinkNest "KeypadWriter" 89 "KeypadWriter$WordList" "size" "I" "KeypadWriter") U := h _ (List.mem_of_getElem? (i := 4) rfl)
theorem gx_nest5 {U : State} (h : ∀ w ∈ gx_nest, va_Nw w U) : va_Nw (Cond.methodLinkNest "KeypadWriter" 25 ⟨"KeypadWriter$State", "<init>", "()V"⟩ "KeypadWriter") U := h _ (List.mem_of_getElem? (i := 5) rfl)
theorem gx_nest6 {U : State} (h : ∀ w ∈ gx_nest, va_Nw w U) : va_Nw (Cond.methodLinkNest "KeypadWriter$State" 11 ⟨"KeypadWriter$WordList", "<init>", "()V"⟩ "KeypadWriter") U := h _ (List.mem_of_getElem? (i := 6) rfl)
theorem gx_nest7 {U : State} (h : ∀ w ∈ gx_nest, va_Nw w U) : va_Nw (Cond.methodLinkNest "KeypadWriter$State" 20 ⟨"KeypadWriter$WrittenText", "<init>", "()V"⟩ "KeypadWriter") U := h _ (List.mem_of_getElem? (i := 7) rfl)
theorem gx_nest8 {U : State} (h : ∀ w ∈ gx_nest, va_Nw w U) : va_Nw (Cond.fieldLinkNest "KeypadWriter" 186 "KeypadWriter$WrittenText" "size" "I" "KeypadWriter") U := h _ (List.mem_of_getElem? (i := 8) rfl)
theorem gx_nest9 {U : State} (h : ∀ w ∈ gx_nest, va_Nw w U) : va_Nw (Cond.fieldLinkNest "KeypadWriter$Candidates" 25 "KeypadWriter$State" "list" "LKeypadWriter$WordList;" "KeypadWriter") U := h _ (List.mem_of_getElem? (i := 9) rfl)
theorem gx_nest10 {U : State} (h : ∀ w ∈ gx_nest, va_Nw w U) : va_Nw (Cond.fieldLinkNest "KeypadWriter" 79 "KeypadWriter$State" "list" "LKeypadWriter$WordList;" "KeypadWriter") U := h _ (List.mem_of_getElem? (i := 10) rfl)
theorem gx_nest11 {U : State} (h : ∀ w ∈ gx_nest, va_Nw w U) : va_Nw (Cond.fieldLinkNest "KeypadWriter" 182 "KeypadWriter$State" "text" "LKeypadWriter$WrittenText;" "KeypadWriter") U := h _ (List.mem_of_getElem? (i := 11) rfl)
theorem gx_nest12 {U : State} (h : ∀ w ∈ gx_nest, va_Nw w U) : va_Nw (Cond.fieldLinkNest "KeypadWriter" 268 "KeypadWriter$State" "clock" "I" "KeypadWriter") U := h _ (List.mem_of_getElem? (i := 12) rfl)
theorem gx_nest13 {U : State} (h : ∀ w ∈ gx_nest, va_Nw w U) : va_Nw (Cond.fieldLinkNest "KeypadWriter" 94 "KeypadWriter$State" "ageing" "I" "KeypadWriter") U := h _ (List.mem_of_getElem? (i := 13) rfl)
theorem gx_nest14 {U : State} (h : ∀ w ∈ gx_nest, va_Nw w U) : va_Nw (Cond.fieldLinkNest "KeypadWriter$Candidates" 42 "KeypadWriter$State" "completing" "Z" "KeypadWriter") U := h _ (List.mem_of_getElem? (i := 14) rfl)
theorem gx_nest15 {U : State} (h : ∀ w ∈ gx_nest, va_Nw w U) : va_Nw (Cond.fieldLinkNest "KeypadWriter" 97 "KeypadWriter$State" "completing" "Z" "KeypadWriter") U := h _ (List.mem_of_getElem? (i := 15) rfl)
theorem gx_nest16 {U : State} (h : ∀ w ∈ gx_nest, va_Nw w U) : va_Nw (Cond.fieldLinkNest "KeypadWriter" 165 "KeypadWriter$State" "tapping" "Z" "KeypadWriter") U := h _ (List.mem_of_getElem? (i := 16) rfl)
theorem gx_nest17 {U : State} (h : ∀ w ∈ gx_nest, va_Nw w U) : va_Nw (Cond.fieldLinkNest "KeypadWriter" 138 "KeypadWriter$State" "pending" "I" "KeypadWriter") U := h _ (List.mem_of_getElem? (i := 17) rfl)
theorem gx_nest18 {U : State} (h : ∀ w ∈ gx_nest, va_Nw w U) : va_Nw (Cond.fieldLinkNest "KeypadWriter$Candidates" 46 "KeypadWriter$State" "present" "J" "KeypadWriter") U := h _ (List.mem_of_getElem? (i := 18) rfl)
theorem gx_nest19 {U : State} (h : ∀ w ∈ gx_nest, va_Nw w U) : va_Nw (Cond.fieldLinkNest "KeypadWriter" 161 "KeypadWriter$State" "present" "J" "KeypadWriter") U := h _ (List.mem_of_getElem? (i := 19) rfl)
theorem gx_nest20 {U : State} (h : ∀ w ∈ gx_nest, va_Nw w U) : va_Nw (Cond.fieldLinkNest "KeypadWriter" 86 "KeypadWriter$State" "chosen" "I" "KeypadWriter") U := h _ (List.mem_of_getElem? (i := 20) rfl)
theorem gx_nest21 {U : State} (h : ∀ w ∈ gx_nest, va_Nw w U) : va_Nw (Cond.fieldLinkNest "KeypadWriter" 179 "KeypadWriter$State" "opened" "I" "KeypadWriter") U := h _ (List.mem_of_getElem? (i := 21) rfl)
theorem gx_nest22 {U : State} (h : ∀ w ∈ gx_nest, va_Nw w U) : va_Nw (Cond.methodLinkNest "KeypadWriter$SavedStates" 17 ⟨"KeypadWriter$State", "<init>", "()V"⟩ "KeypadWriter") U := h _ (List.mem_of_getElem? (i := 22) rfl)
theorem gx_nest23 {U : State} (h : ∀ w ∈ gx_nest, va_Nw w U) : va_Nw (Cond.fieldLinkNest "KeypadWriter" 248 "KeypadWriter$SavedStates" "size" "I" "KeypadWriter") U := h _ (List.mem_of_getElem? (i := 23) rfl)
theorem gx_nest24 {U : State} (h : ∀ w ∈ gx_nest, va_Nw w U) : va_Nw (Cond.methodLinkNest "KeypadWriter" 39 ⟨"KeypadWriter$Candidates", "<init>", "()V"⟩ "KeypadWriter") U := h _ (List.mem_of_getElem? (i := 24) rfl)
theorem gx_nest25 {U : State} (h : ∀ w ∈ gx_nest, va_Nw w U) : va_Nw (Cond.fieldLinkNest "KeypadWriter" 171 "KeypadWriter$Candidates" "size" "I" "KeypadWriter") U := h _ (List.mem_of_getElem? (i := 25) rfl)
theorem gx_nest26 {U : State} (h : ∀ w ∈ gx_nest, va_Nw w U) : va_Nw (Cond.castable "java/lang/IllegalArgumentException" "java/lang/IllegalArgumentException") U := h _ (List.mem_of_getElem? (i := 26) rfl)
theorem gx_nest27 {U : State} (h : ∀ w ∈ gx_nest, va_Nw w U) : va_Nw (Cond.declares ⟨"java/lang/RuntimeException", "<init>", "()V"⟩) U := h _ (List.mem_of_getElem? (i := 27) rfl)
theorem gx_nest28 {U : State} (h : ∀ w ∈ gx_nest, va_Nw w U) : va_Nw (Cond.declares ⟨"java/lang/RuntimeException", "<init>", "(Ljava/lang/String;)V"⟩) U := h _ (List.mem_of_getElem? (i := 28) rfl)
theorem gx_nest29 {U : State} (h : ∀ w ∈ gx_nest, va_Nw w U) : va_Nw (Cond.declares ⟨"java/lang/Exception", "<init>", "()V"⟩) U := h _ (List.mem_of_getElem? (i := 29) rfl)
theorem gx_nest30 {U : State} (h : ∀ w ∈ gx_nest, va_Nw w U) : va_Nw (Cond.declares ⟨"java/lang/Exception", "<init>", "(Ljava/lang/String;)V"⟩) U := h _ (List.mem_of_getElem? (i := 30) rfl)
theorem gx_nest31 {U : State} (h : ∀ w ∈ gx_nest, va_Nw w U) : va_Nw (Cond.declares ⟨"java/lang/Throwable", "<init>", "()V"⟩) U := h _ (List.mem_of_getElem? (i := 31) rfl)
theorem gx_nest32 {U : State} (h : ∀ w ∈ gx_nest, va_Nw w U) : va_Nw (Cond.declares ⟨"java/lang/Throwable", "<init>", "(Ljava/lang/String;)V"⟩) U := h _ (List.mem_of_getElem? (i := 32) rfl)
theorem gx_nest33 {U : State} (h : ∀ w ∈ gx_nest, va_Nw w U) : va_Nw (Cond.castable "java/lang/IllegalStateException" "java/lang/IllegalStateException") U := h _ (List.mem_of_getElem? (i := 33) rfl)
theorem gx_nest34 {U : State} (h : ∀ w ∈ gx_nest, va_Nw w U) : va_Nw (Cond.castable "java/lang/IndexOutOfBoundsException" "java/lang/IndexOutOfBoundsException") U := h _ (List.mem_of_getElem? (i := 34) rfl)
def gx_strs : List (Nat × String) := [(203, "there are the settings 0 to 10"), (249, "there is no saved state"), (46, "a byte is 0 to 127"), (57, "the list text has 150 bytes"), (174, "the present word is empty"), (189, "the text has 30 words"), (196, "the text has no such word"), (198, "a word is being written"), (172, "there are no candidates"), (92, "the ageing is 1 to 50"), (136, "a key is 2 to 9"), (145, "the present word has 10 places"), (216, "there is no such candidate"), (107, "the list has no such word"), (110, "a word has the values 0 to 4"), (125, "the word has no such letter"), (214, "an index is not negative")]
