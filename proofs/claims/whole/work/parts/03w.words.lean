def gx_G : List Cond := lw_tbl.filter goodWord
theorem gx_mem {w : Cond} (i : Nat) (h : lw_tbl[i]? = some w) (hg : goodWord w = true) : w ∈ gx_G := List.mem_filter.mpr ⟨List.mem_of_getElem? h, hg⟩
theorem gx_tb {w : Cond} (h : w ∈ tables_1) (hg : goodWord w = true) : w ∈ gx_G := List.mem_filter.mpr ⟨List.mem_append_right _ h, hg⟩
theorem gx_c1 (w : Cond) (h : w ∈ tables_1_1) (hg : goodWord w = true) : w ∈ gx_G := gx_tb (List.mem_append_left _ h) hg
theorem gx_c2 (w : Cond) (h : w ∈ tables_1_2) (hg : goodWord w = true) : w ∈ gx_G := gx_tb (List.mem_append_right _ (List.mem_append_left _ h)) hg
theorem gx_c3 (w : Cond) (h : w ∈ tables_1_3) (hg : goodWord w = true) : w ∈ gx_G := gx_tb (List.mem_append_right _ (List.mem_append_right _ (List.mem_append_left _ h))) hg
theorem gx_c4 (w : Cond) (h : w ∈ tables_1_4) (hg : goodWord w = true) : w ∈ gx_G := gx_tb (List.mem_append_right _ (List.mem_append_right _ (List.mem_append_right _ (List.mem_append_left _ h)))) hg
theorem gx_c5 (w : Cond) (h : w ∈ tables_1_5) (hg : goodWord w = true) : w ∈ gx_G := gx_tb (List.mem_append_right _ (List.mem_append_right _ (List.mem_append_right _ (List.mem_append_right _ (h))))) hg
theorem gx_sel {q : MethodName × Nat} {w : Cond} (hw : w = Cond.selects q.1.cls q.1 q.1) (h : q ∈ lw_privs) (hg : goodWord w = true) : w ∈ gx_G := List.mem_filter.mpr ⟨List.mem_append_left _ (List.mem_map.mpr ⟨q, h, hw.symm⟩), hg⟩
theorem gw_s0 : Cond.selects "KeypadWriter$ListText" ⟨"KeypadWriter$ListText", "readItem", "(LKeypadWriter$WordList;)Z"⟩ ⟨"KeypadWriter$ListText", "readItem", "(LKeypadWriter$WordList;)Z"⟩ ∈ gx_G := gx_sel (q := (⟨"KeypadWriter$ListText", "readItem", "(LKeypadWriter$WordList;)Z"⟩, 3)) rfl (List.mem_append_left _ (List.mem_of_getElem? (i := 0) rfl)) rfl
theorem gw_s1 : Cond.selects "KeypadWriter$ListText" ⟨"KeypadWriter$ListText", "readWord", "()J"⟩ ⟨"KeypadWriter$ListText", "readWord", "()J"⟩ ∈ gx_G := gx_sel (q := (⟨"KeypadWriter$ListText", "readWord", "()J"⟩, 3)) rfl (List.mem_append_left _ (List.mem_of_getElem? (i := 1) rfl)) rfl
theorem gw_s2 : Cond.selects "KeypadWriter$ListText" ⟨"KeypadWriter$ListText", "isHere", "(II)Z"⟩ ⟨"KeypadWriter$ListText", "isHere", "(II)Z"⟩ ∈ gx_G := gx_sel (q := (⟨"KeypadWriter$ListText", "isHere", "(II)Z"⟩, 3)) rfl (List.mem_append_left _ (List.mem_of_getElem? (i := 2) rfl)) rfl
theorem gw_s3 : Cond.selects "KeypadWriter$ListText" ⟨"KeypadWriter$ListText", "byteHere", "()I"⟩ ⟨"KeypadWriter$ListText", "byteHere", "()I"⟩ ∈ gx_G := gx_sel (q := (⟨"KeypadWriter$ListText", "byteHere", "()I"⟩, 3)) rfl (List.mem_append_left _ (List.mem_of_getElem? (i := 3) rfl)) rfl
theorem gw_s4 : Cond.selects "KeypadWriter$ListText" ⟨"KeypadWriter$ListText", "readCount", "()I"⟩ ⟨"KeypadWriter$ListText", "readCount", "()I"⟩ ∈ gx_G := gx_sel (q := (⟨"KeypadWriter$ListText", "readCount", "()I"⟩, 3)) rfl (List.mem_append_left _ (List.mem_of_getElem? (i := 4) rfl)) rfl
theorem gw_s5 : Cond.selects "KeypadWriter$SavedStates" ⟨"KeypadWriter$SavedStates", "dropOldest", "()V"⟩ ⟨"KeypadWriter$SavedStates", "dropOldest", "()V"⟩ ∈ gx_G := gx_sel (q := (⟨"KeypadWriter$SavedStates", "dropOldest", "()V"⟩, 2)) rfl (List.mem_append_left _ (List.mem_of_getElem? (i := 5) rfl)) rfl
theorem gw_s6 : Cond.selects "KeypadWriter$SavedStates" ⟨"KeypadWriter$SavedStates", "stateAt", "(I)LKeypadWriter$State;"⟩ ⟨"KeypadWriter$SavedStates", "stateAt", "(I)LKeypadWriter$State;"⟩ ∈ gx_G := gx_sel (q := (⟨"KeypadWriter$SavedStates", "stateAt", "(I)LKeypadWriter$State;"⟩, 2)) rfl (List.mem_append_left _ (List.mem_of_getElem? (i := 6) rfl)) rfl
theorem gw_s7 : Cond.selects "KeypadWriter" ⟨"KeypadWriter", "displayed", "()J"⟩ ⟨"KeypadWriter", "displayed", "()J"⟩ ∈ gx_G := gx_sel (q := (⟨"KeypadWriter", "displayed", "()J"⟩, 5)) rfl (List.mem_append_left _ (List.mem_of_getElem? (i := 7) rfl)) rfl
theorem gw_s8 : Cond.selects "KeypadWriter$Candidates" ⟨"KeypadWriter$Candidates", "insert", "(LKeypadWriter$WordList;II)V"⟩ ⟨"KeypadWriter$Candidates", "insert", "(LKeypadWriter$WordList;II)V"⟩ ∈ gx_G := gx_sel (q := (⟨"KeypadWriter$Candidates", "insert", "(LKeypadWriter$WordList;II)V"⟩, 2)) rfl (List.mem_append_left _ (List.mem_of_getElem? (i := 8) rfl)) rfl
theorem gw_s9 : Cond.selects "KeypadWriter$WordList" ⟨"KeypadWriter$WordList", "sharesKeys", "(I)Z"⟩ ⟨"KeypadWriter$WordList", "sharesKeys", "(I)Z"⟩ ∈ gx_G := gx_sel (q := (⟨"KeypadWriter$WordList", "sharesKeys", "(I)Z"⟩, 6)) rfl (List.mem_append_left _ (List.mem_of_getElem? (i := 9) rfl)) rfl
theorem gw_s10 : Cond.selects "KeypadWriter" ⟨"KeypadWriter", "settingOf", "(I)I"⟩ ⟨"KeypadWriter", "settingOf", "(I)I"⟩ ∈ gx_G := gx_sel (q := (⟨"KeypadWriter", "settingOf", "(I)I"⟩, 5)) rfl (List.mem_append_left _ (List.mem_of_getElem? (i := 10) rfl)) rfl
theorem gw_s11 : Cond.selects "KeypadWriter" ⟨"KeypadWriter", "mixedWord", "(JI)J"⟩ ⟨"KeypadWriter", "mixedWord", "(JI)J"⟩ ∈ gx_G := gx_sel (q := (⟨"KeypadWriter", "mixedWord", "(JI)J"⟩, 5)) rfl (List.mem_append_left _ (List.mem_of_getElem? (i := 11) rfl)) rfl
theorem gw_s12 : Cond.selects "KeypadWriter" ⟨"KeypadWriter", "placeValue", "(I)I"⟩ ⟨"KeypadWriter", "placeValue", "(I)I"⟩ ∈ gx_G := gx_sel (q := (⟨"KeypadWriter", "placeValue", "(I)I"⟩, 5)) rfl (List.mem_append_left _ (List.mem_of_getElem? (i := 12) rfl)) rfl
theorem gw_s13 : Cond.selects "java/lang/Throwable" ⟨"java/lang/Throwable", "fillInStackTrace", "(I)Ljava/lang/Throwable;"⟩ ⟨"java/lang/Throwable", "fillInStackTrace", "(I)Ljava/lang/Throwable;"⟩ ∈ gx_G := gx_sel (q := (⟨"java/lang/Throwable", "fillInStackTrace", "(I)Ljava/lang/Throwable;"⟩, 6)) rfl (List.mem_append_left _ (List.mem_of_getElem? (i := 13) rfl)) rfl
theorem gw_s14 : Cond.selects "KeypadWriter$WordList" ⟨"KeypadWriter$WordList", "lastAdded", "()I"⟩ ⟨"KeypadWriter$WordList", "lastAdded", "()I"⟩ ∈ gx_G := gx_sel (q := (⟨"KeypadWriter$WordList", "lastAdded", "()I"⟩, 6)) rfl (List.mem_append_left _ (List.mem_of_getElem? (i := 14) rfl)) rfl
theorem gw_s15 : Cond.selects "KeypadWriterModel" ⟨"KeypadWriterModel", "isWord", "(I)Z"⟩ ⟨"KeypadWriterModel", "isWord", "(I)Z"⟩ ∈ gx_G := gx_sel (q := (⟨"KeypadWriterModel", "isWord", "(I)Z"⟩, 10)) rfl (List.mem_append_left _ (List.mem_of_getElem? (i := 15) rfl)) rfl
theorem gw_s16 : Cond.selects "KeypadWriterModel" ⟨"KeypadWriterModel", "goes", "(ZZ)Z"⟩ ⟨"KeypadWriterModel", "goes", "(ZZ)Z"⟩ ∈ gx_G := gx_sel (q := (⟨"KeypadWriterModel", "goes", "(ZZ)Z"⟩, 10)) rfl (List.mem_append_right _ (List.mem_append_left _ (List.mem_of_getElem? (i := 0) rfl))) rfl
theorem gw_s17 : Cond.selects "KeypadWriterModel" ⟨"KeypadWriterModel", "wordValue", "(II)I"⟩ ⟨"KeypadWriterModel", "wordValue", "(II)I"⟩ ∈ gx_G := gx_sel (q := (⟨"KeypadWriterModel", "wordValue", "(II)I"⟩, 10)) rfl (List.mem_append_right _ (List.mem_append_left _ (List.mem_of_getElem? (i := 1) rfl))) rfl
theorem gw_s18 : Cond.selects "KeypadWriterModel" ⟨"KeypadWriterModel", "rankOf", "(I)I"⟩ ⟨"KeypadWriterModel", "rankOf", "(I)I"⟩ ∈ gx_G := gx_sel (q := (⟨"KeypadWriterModel", "rankOf", "(I)I"⟩, 10)) rfl (List.mem_append_right _ (List.mem_append_left _ (List.mem_of_getElem? (i := 2) rfl))) rfl
theorem gw_s19 : Cond.selects "KeypadWriterModel" ⟨"KeypadWriterModel", "isAhead", "(II)Z"⟩ ⟨"KeypadWriterModel", "isAhead", "(II)Z"⟩ ∈ gx_G := gx_sel (q := (⟨"KeypadWriterModel", "isAhead", "(II)Z"⟩, 10)) rfl (List.mem_append_right _ (List.mem_append_left _ (List.mem_of_getElem? (i := 3) rfl))) rfl
theorem gw_s20 : Cond.selects "KeypadWriterModel" ⟨"KeypadWriterModel", "of", "(II)I"⟩ ⟨"KeypadWriterModel", "of", "(II)I"⟩ ∈ gx_G := gx_sel (q := (⟨"KeypadWriterModel", "of", "(II)I"⟩, 10)) rfl (List.mem_append_right _ (List.mem_append_left _ (List.mem_of_getElem? (i := 4) rfl))) rfl
theorem gw_s21 : Cond.selects "KeypadWriterModel" ⟨"KeypadWriterModel", "compares", "(II)I"⟩ ⟨"KeypadWriterModel", "compares", "(II)I"⟩ ∈ gx_G := gx_sel (q := (⟨"KeypadWriterModel", "compares", "(II)I"⟩, 10)) rfl (List.mem_append_right _ (List.mem_append_left _ (List.mem_of_getElem? (i := 5) rfl))) rfl
theorem gw_s22 : Cond.selects "KeypadWriterModel" ⟨"KeypadWriterModel", "letterOf", "(II)I"⟩ ⟨"KeypadWriterModel", "letterOf", "(II)I"⟩ ∈ gx_G := gx_sel (q := (⟨"KeypadWriterModel", "letterOf", "(II)I"⟩, 10)) rfl (List.mem_append_right _ (List.mem_append_left _ (List.mem_of_getElem? (i := 6) rfl))) rfl
theorem gw_s23 : Cond.selects "KeypadWriterModel" ⟨"KeypadWriterModel", "candidates", "()I"⟩ ⟨"KeypadWriterModel", "candidates", "()I"⟩ ∈ gx_G := gx_sel (q := (⟨"KeypadWriterModel", "candidates", "()I"⟩, 10)) rfl (List.mem_append_right _ (List.mem_append_left _ (List.mem_of_getElem? (i := 7) rfl))) rfl
theorem gw_s24 : Cond.selects "KeypadWriterModel" ⟨"KeypadWriterModel", "groupOf", "(I)I"⟩ ⟨"KeypadWriterModel", "groupOf", "(I)I"⟩ ∈ gx_G := gx_sel (q := (⟨"KeypadWriterModel", "groupOf", "(I)I"⟩, 10)) rfl (List.mem_append_right _ (List.mem_append_left _ (List.mem_of_getElem? (i := 8) rfl))) rfl
theorem gw_s25 : Cond.selects "KeypadWriterModel" ⟨"KeypadWriterModel", "fits", "(II)Z"⟩ ⟨"KeypadWriterModel", "fits", "(II)Z"⟩ ∈ gx_G := gx_sel (q := (⟨"KeypadWriterModel", "fits", "(II)Z"⟩, 10)) rfl (List.mem_append_right _ (List.mem_append_left _ (List.mem_of_getElem? (i := 9) rfl))) rfl
theorem gw_s26 : Cond.selects "KeypadWriterModel" ⟨"KeypadWriterModel", "candidateAt", "(I)I"⟩ ⟨"KeypadWriterModel", "candidateAt", "(I)I"⟩ ∈ gx_G := gx_sel (q := (⟨"KeypadWriterModel", "candidateAt", "(I)I"⟩, 10)) rfl (List.mem_append_right _ (List.mem_append_left _ (List.mem_of_getElem? (i := 10) rfl))) rfl
theorem gw_s27 : Cond.selects "KeypadWriterModel" ⟨"KeypadWriterModel", "save", "()V"⟩ ⟨"KeypadWriterModel", "save", "()V"⟩ ∈ gx_G := gx_sel (q := (⟨"KeypadWriterModel", "save", "()V"⟩, 10)) rfl (List.mem_append_right _ (List.mem_append_left _ (List.mem_of_getElem? (i := 11) rfl))) rfl
theorem gw_s28 : Cond.selects "KeypadWriterModel" ⟨"KeypadWriterModel", "laysDisplay", "()V"⟩ ⟨"KeypadWriterModel", "laysDisplay", "()V"⟩ ∈ gx_G := gx_sel (q := (⟨"KeypadWriterModel", "laysDisplay", "()V"⟩, 10)) rfl (List.mem_append_right _ (List.mem_append_left _ (List.mem_of_getElem? (i := 12) rfl))) rfl
theorem gw_s29 : Cond.selects "KeypadWriterModel" ⟨"KeypadWriterModel", "goesFromText", "(I)V"⟩ ⟨"KeypadWriterModel", "goesFromText", "(I)V"⟩ ∈ gx_G := gx_sel (q := (⟨"KeypadWriterModel", "goesFromText", "(I)V"⟩, 10)) rfl (List.mem_append_right _ (List.mem_append_left _ (List.mem_of_getElem? (i := 13) rfl))) rfl
theorem gw_s30 : Cond.selects "KeypadWriterModel" ⟨"KeypadWriterModel", "uses", "()V"⟩ ⟨"KeypadWriterModel", "uses", "()V"⟩ ∈ gx_G := gx_sel (q := (⟨"KeypadWriterModel", "uses", "()V"⟩, 10)) rfl (List.mem_append_right _ (List.mem_append_left _ (List.mem_of_getElem? (i := 14) rfl))) rfl
theorem gw_s31 : Cond.selects "KeypadWriterModel" ⟨"KeypadWriterModel", "shownWord", "()I"⟩ ⟨"KeypadWriterModel", "shownWord", "()I"⟩ ∈ gx_G := gx_sel (q := (⟨"KeypadWriterModel", "shownWord", "()I"⟩, 10)) rfl (List.mem_append_right _ (List.mem_append_left _ (List.mem_of_getElem? (i := 15) rfl))) rfl
theorem gw_s32 : Cond.selects "KeypadWriterModel" ⟨"KeypadWriterModel", "isShown", "(I)Z"⟩ ⟨"KeypadWriterModel", "isShown", "(I)Z"⟩ ∈ gx_G := gx_sel (q := (⟨"KeypadWriterModel", "isShown", "(I)Z"⟩, 10)) rfl (List.mem_append_right _ (List.mem_append_right _ (List.mem_append_left _ (List.mem_of_getElem? (i := 0) rfl)))) rfl
theorem gw_s33 : Cond.selects "KeypadWriterModel" ⟨"KeypadWriterModel", "adds", "(I)V"⟩ ⟨"KeypadWriterModel", "adds", "(I)V"⟩ ∈ gx_G := gx_sel (q := (⟨"KeypadWriterModel", "adds", "(I)V"⟩, 10)) rfl (List.mem_append_right _ (List.mem_append_right _ (List.mem_append_left _ (List.mem_of_getElem? (i := 1) rfl)))) rfl
theorem gw_s34 : Cond.selects "KeypadWriterModel" ⟨"KeypadWriterModel", "lowestAdded", "()I"⟩ ⟨"KeypadWriterModel", "lowestAdded", "()I"⟩ ∈ gx_G := gx_sel (q := (⟨"KeypadWriterModel", "lowestAdded", "()I"⟩, 10)) rfl (List.mem_append_right _ (List.mem_append_right _ (List.mem_append_left _ (List.mem_of_getElem? (i := 2) rfl)))) rfl
theorem gw_s35 : Cond.selects "KeypadWriterModel" ⟨"KeypadWriterModel", "leaves", "(I)V"⟩ ⟨"KeypadWriterModel", "leaves", "(I)V"⟩ ∈ gx_G := gx_sel (q := (⟨"KeypadWriterModel", "leaves", "(I)V"⟩, 10)) rfl (List.mem_append_right _ (List.mem_append_right _ (List.mem_append_left _ (List.mem_of_getElem? (i := 3) rfl)))) rfl
theorem gw_s36 : Cond.selects "KeypadWriterModel" ⟨"KeypadWriterModel", "ages", "()V"⟩ ⟨"KeypadWriterModel", "ages", "()V"⟩ ∈ gx_G := gx_sel (q := (⟨"KeypadWriterModel", "ages", "()V"⟩, 10)) rfl (List.mem_append_right _ (List.mem_append_right _ (List.mem_append_left _ (List.mem_of_getElem? (i := 4) rfl)))) rfl
theorem gw_s37 : Cond.selects "KeypadWriterModel" ⟨"KeypadWriterModel", "settingOf", "(I)I"⟩ ⟨"KeypadWriterModel", "settingOf", "(I)I"⟩ ∈ gx_G := gx_sel (q := (⟨"KeypadWriterModel", "settingOf", "(I)I"⟩, 10)) rfl (List.mem_append_right _ (List.mem_append_right _ (List.mem_append_left _ (List.mem_of_getElem? (i := 5) rfl)))) rfl
theorem gw_s38 : Cond.selects "KeypadWriterModel" ⟨"KeypadWriterModel", "stepsOf", "(I)I"⟩ ⟨"KeypadWriterModel", "stepsOf", "(I)I"⟩ ∈ gx_G := gx_sel (q := (⟨"KeypadWriterModel", "stepsOf", "(I)I"⟩, 10)) rfl (List.mem_append_right _ (List.mem_append_right _ (List.mem_append_left _ (List.mem_of_getElem? (i := 6) rfl)))) rfl
theorem gw_s39 : Cond.selects "KeypadWriterModel" ⟨"KeypadWriterModel", "haveKeys", "(II)Z"⟩ ⟨"KeypadWriterModel", "haveKeys", "(II)Z"⟩ ∈ gx_G := gx_sel (q := (⟨"KeypadWriterModel", "haveKeys", "(II)Z"⟩, 10)) rfl (List.mem_append_right _ (List.mem_append_right _ (List.mem_append_left _ (List.mem_of_getElem? (i := 7) rfl)))) rfl
theorem gw_s40 : Cond.selects "KeypadWriterModel" ⟨"KeypadWriterModel", "pressesOf", "(IZ)I"⟩ ⟨"KeypadWriterModel", "pressesOf", "(IZ)I"⟩ ∈ gx_G := gx_sel (q := (⟨"KeypadWriterModel", "pressesOf", "(IZ)I"⟩, 10)) rfl (List.mem_append_right _ (List.mem_append_right _ (List.mem_append_left _ (List.mem_of_getElem? (i := 8) rfl)))) rfl
theorem gw_s41 : Cond.selects "KeypadWriterModel" ⟨"KeypadWriterModel", "isFirst", "(II)Z"⟩ ⟨"KeypadWriterModel", "isFirst", "(II)Z"⟩ ∈ gx_G := gx_sel (q := (⟨"KeypadWriterModel", "isFirst", "(II)Z"⟩, 10)) rfl (List.mem_append_right _ (List.mem_append_right _ (List.mem_append_left _ (List.mem_of_getElem? (i := 9) rfl)))) rfl
theorem gw_s42 : Cond.selects "KeypadWriterModel" ⟨"KeypadWriterModel", "lays", "()V"⟩ ⟨"KeypadWriterModel", "lays", "()V"⟩ ∈ gx_G := gx_sel (q := (⟨"KeypadWriterModel", "lays", "()V"⟩, 10)) rfl (List.mem_append_right _ (List.mem_append_right _ (List.mem_append_left _ (List.mem_of_getElem? (i := 10) rfl)))) rfl
theorem gw_s43 : Cond.selects "KeypadWriterModel" ⟨"KeypadWriterModel", "readsItem", "()Z"⟩ ⟨"KeypadWriterModel", "readsItem", "()Z"⟩ ∈ gx_G := gx_sel (q := (⟨"KeypadWriterModel", "readsItem", "()Z"⟩, 10)) rfl (List.mem_append_right _ (List.mem_append_right _ (List.mem_append_left _ (List.mem_of_getElem? (i := 11) rfl)))) rfl
theorem gw_s44 : Cond.selects "KeypadWriterModel" ⟨"KeypadWriterModel", "readsWord", "()Z"⟩ ⟨"KeypadWriterModel", "readsWord", "()Z"⟩ ∈ gx_G := gx_sel (q := (⟨"KeypadWriterModel", "readsWord", "()Z"⟩, 10)) rfl (List.mem_append_right _ (List.mem_append_right _ (List.mem_append_left _ (List.mem_of_getElem? (i := 12) rfl)))) rfl
theorem gw_s45 : Cond.selects "KeypadWriterModel" ⟨"KeypadWriterModel", "here", "()I"⟩ ⟨"KeypadWriterModel", "here", "()I"⟩ ∈ gx_G := gx_sel (q := (⟨"KeypadWriterModel", "here", "()I"⟩, 10)) rfl (List.mem_append_right _ (List.mem_append_right _ (List.mem_append_left _ (List.mem_of_getElem? (i := 13) rfl)))) rfl
theorem gw_s46 : Cond.selects "KeypadWriterModel" ⟨"KeypadWriterModel", "passesByte", "(I)Z"⟩ ⟨"KeypadWriterModel", "passesByte", "(I)Z"⟩ ∈ gx_G := gx_sel (q := (⟨"KeypadWriterModel", "passesByte", "(I)Z"⟩, 10)) rfl (List.mem_append_right _ (List.mem_append_right _ (List.mem_append_left _ (List.mem_of_getElem? (i := 14) rfl)))) rfl
theorem gw_s47 : Cond.selects "KeypadWriterModel" ⟨"KeypadWriterModel", "takesBack", "()V"⟩ ⟨"KeypadWriterModel", "takesBack", "()V"⟩ ∈ gx_G := gx_sel (q := (⟨"KeypadWriterModel", "takesBack", "()V"⟩, 10)) rfl (List.mem_append_right _ (List.mem_append_right _ (List.mem_append_left _ (List.mem_of_getElem? (i := 15) rfl)))) rfl
theorem gw_s48 : Cond.selects "KeypadWriterModel" ⟨"KeypadWriterModel", "withWord", "(JI)J"⟩ ⟨"KeypadWriterModel", "withWord", "(JI)J"⟩ ∈ gx_G := gx_sel (q := (⟨"KeypadWriterModel", "withWord", "(JI)J"⟩, 10)) rfl (List.mem_append_right _ (List.mem_append_right _ (List.mem_append_right _ (List.mem_of_getElem? (i := 0) rfl)))) rfl
theorem gw_0 : Cond.initialized "KeypadWriterLaw" ∈ gx_G := gx_c1 _ (List.mem_of_getElem? (i := 0) rfl) rfl
theorem gw_1 : Cond.initialized "KeypadWriter" ∈ gx_G := gx_c1 _ (List.mem_of_getElem? (i := 1) rfl) rfl
theorem gw_2 : Cond.initialized "KeypadWriter$ListText" ∈ gx_G := gx_c1 _ (List.mem_of_getElem? (i := 2) rfl) rfl
theorem gw_3 : Cond.initialized "KeypadWriter$WordList" ∈ gx_G := gx_c1 _ (List.mem_of_getElem? (i := 3) rfl) rfl
theorem gw_4 : Cond.initialized "KeypadWriter$State" ∈ gx_G := gx_c1 _ (List.mem_of_getElem? (i := 4) rfl) rfl
theorem gw_5 : Cond.initialized "KeypadWriter$WrittenText" ∈ gx_G := gx_c1 _ (List.mem_of_getElem? (i := 5) rfl) rfl
theorem gw_6 : Cond.initialized "KeypadWriter$SavedStates" ∈ gx_G := gx_c1 _ (List.mem_of_getElem? (i := 6) rfl) rfl
theorem gw_7 : Cond.initialized "KeypadWriter$Candidates" ∈ gx_G := gx_c1 _ (List.mem_of_getElem? (i := 7) rfl) rfl
theorem gw_8 : Cond.initialized "KeypadWriterModel" ∈ gx_G := gx_c1 _ (List.mem_of_getElem? (i := 8) rfl) rfl
theorem gw_9 : Cond.initialized "java/lang/Throwable" ∈ gx_G := gx_c1 _ (List.mem_of_getElem? (i := 9) rfl) rfl
theorem gw_10 : Cond.initialized "java/lang/Exception" ∈ gx_G := gx_c1 _ (List.mem_of_getElem? (i := 10) rfl) rfl
theorem gw_11 : Cond.initialized "java/lang/RuntimeException" ∈ gx_G := gx_c1 _ (List.mem_of_getElem? (i := 11) rfl) rfl
theorem gw_12 : Cond.initialized "java/lang/IllegalArgumentException" ∈ gx_G := gx_c1 _ (List.mem_of_getElem? (i := 12) rfl) rfl
theorem gw_13 : Cond.initialized "java/lang/IllegalStateException" ∈ gx_G := gx_c1 _ (List.mem_of_getElem? (i := 13) rfl) rfl
theorem gw_14 : Cond.initialized "KeypadWriter$Slots" ∈ gx_G := gx_c1 _ (List.mem_of_getElem? (i := 14) rfl) rfl
theorem gw_15 : Cond.initialized "KeypadWriter$Keys" ∈ gx_G := gx_c1 _ (List.mem_of_getElem? (i := 15) rfl) rfl
theorem gw_16 : Cond.initialized "java/lang/System" ∈ gx_G := gx_c1 _ (List.mem_of_getElem? (i := 16) rfl) rfl
theorem gw_17 : Cond.initialized "java/lang/IndexOutOfBoundsException" ∈ gx_G := gx_c1 _ (List.mem_of_getElem? (i := 17) rfl) rfl
theorem gw_18 : Cond.initialized "java/lang/Math" ∈ gx_G := gx_c1 _ (List.mem_of_getElem? (i := 18) rfl) rfl
theorem gw_19 : Cond.classLink "KeypadWriterLaw" 8 "KeypadWriter" ∈ gx_G := gx_c1 _ (List.mem_of_getElem? (i := 19) rfl) rfl
theorem gw_20 : Cond.instantiable "KeypadWriter" 5 ∈ gx_G := gx_c1 _ (List.mem_of_getElem? (i := 20) rfl) rfl
theorem gw_21 : Cond.methodLink "KeypadWriterLaw" 74 ⟨"KeypadWriter", "<init>", "()V"⟩ ∈ gx_G := gx_c1 _ (List.mem_of_getElem? (i := 21) rfl) rfl
theorem gw_22 : Cond.instanceMethod ⟨"KeypadWriter", "<init>", "()V"⟩ ∈ gx_G := gx_c1 _ (List.mem_of_getElem? (i := 22) rfl) rfl
theorem gw_23 : Cond.code ⟨"KeypadWriter", "<init>", "()V"⟩ prog_1_method_1_code 1 none ∈ gx_G := gx_c1 _ (List.mem_of_getElem? (i := 23) rfl) rfl
theorem gw_24 : Cond.methodLink "KeypadWriter" 1 ⟨"java/lang/Object", "<init>", "()V"⟩ ∈ gx_G := gx_c1 _ (List.mem_of_getElem? (i := 24) rfl) rfl
theorem gw_25 : Cond.instanceMethod ⟨"java/lang/Object", "<init>", "()V"⟩ ∈ gx_G := gx_c1 _ (List.mem_of_getElem? (i := 25) rfl) rfl
theorem gw_26 : Cond.code ⟨"java/lang/Object", "<init>", "()V"⟩ object_method_1_code 1 none ∈ gx_G := gx_c1 _ (List.mem_of_getElem? (i := 26) rfl) rfl
theorem gw_27 : Cond.classLink "KeypadWriter" 7 "KeypadWriter$ListText" ∈ gx_G := gx_c1 _ (List.mem_of_getElem? (i := 27) rfl) rfl
theorem gw_28 : Cond.instantiable "KeypadWriter$ListText" 3 ∈ gx_G := gx_c1 _ (List.mem_of_getElem? (i := 28) rfl) rfl
theorem gw_30 : Cond.instanceMethod ⟨"KeypadWriter$ListText", "<init>", "()V"⟩ ∈ gx_G := gx_c1 _ (List.mem_of_getElem? (i := 30) rfl) rfl
theorem gw_31 : Cond.code ⟨"KeypadWriter$ListText", "<init>", "()V"⟩ prog_4_method_1_code 1 none ∈ gx_G := gx_c1 _ (List.mem_of_getElem? (i := 31) rfl) rfl
theorem gw_32 : Cond.methodLink "KeypadWriter$ListText" 3 ⟨"java/lang/Object", "<init>", "()V"⟩ ∈ gx_G := gx_c1 _ (List.mem_of_getElem? (i := 32) rfl) rfl
theorem gw_33 : Cond.fieldLink "KeypadWriter$ListText" 9 "KeypadWriter$ListText" "bytes" "[I" ∈ gx_G := gx_c1 _ (List.mem_of_getElem? (i := 33) rfl) rfl
theorem gw_34 : Cond.fieldLink "KeypadWriter$ListText" 15 "KeypadWriter$ListText" "length" "I" ∈ gx_G := gx_c1 _ (List.mem_of_getElem? (i := 34) rfl) rfl
theorem gw_36 : Cond.fieldLink "KeypadWriter$ListText" 28 "KeypadWriter$ListText" "position" "I" ∈ gx_G := gx_c1 _ (List.mem_of_getElem? (i := 36) rfl) rfl
theorem gw_37 : Cond.laysFinal "KeypadWriter$ListText" "KeypadWriter$ListText" "bytes" "[I" ∈ gx_G := gx_c1 _ (List.mem_of_getElem? (i := 37) rfl) rfl
theorem gw_38 : Cond.soleField "KeypadWriter$ListText" "bytes" ∈ gx_G := gx_c1 _ (List.mem_of_getElem? (i := 38) rfl) rfl
theorem gw_39 : Cond.lays "KeypadWriter$ListText" "KeypadWriter$ListText" "length" "I" ∈ gx_G := gx_c1 _ (List.mem_of_getElem? (i := 39) rfl) rfl
theorem gw_40 : Cond.soleField "KeypadWriter$ListText" "length" ∈ gx_G := gx_c1 _ (List.mem_of_getElem? (i := 40) rfl) rfl
theorem gw_41 : Cond.lays "KeypadWriter$ListText" "KeypadWriter$ListText" "position" "I" ∈ gx_G := gx_c1 _ (List.mem_of_getElem? (i := 41) rfl) rfl
theorem gw_42 : Cond.soleField "KeypadWriter$ListText" "position" ∈ gx_G := gx_c1 _ (List.mem_of_getElem? (i := 42) rfl) rfl
theorem gw_43 : Cond.superclass "KeypadWriter$ListText" "java/lang/Object" ∈ gx_G := gx_c1 _ (List.mem_of_getElem? (i := 43) rfl) rfl
theorem gw_44 : Cond.arrayClass FieldType.int ∈ gx_G := gx_c1 _ (List.mem_of_getElem? (i := 44) rfl) rfl
theorem gw_45 : Cond.classLink "KeypadWriter" 16 "KeypadWriter$WordList" ∈ gx_G := gx_c1 _ (List.mem_of_getElem? (i := 45) rfl) rfl
theorem gw_46 : Cond.instantiable "KeypadWriter$WordList" 6 ∈ gx_G := gx_c1 _ (List.mem_of_getElem? (i := 46) rfl) rfl
theorem gw_48 : Cond.instanceMethod ⟨"KeypadWriter$WordList", "<init>", "()V"⟩ ∈ gx_G := gx_c1 _ (List.mem_of_getElem? (i := 48) rfl) rfl
theorem gw_49 : Cond.code ⟨"KeypadWriter$WordList", "<init>", "()V"⟩ prog_8_method_1_code 1 none ∈ gx_G := gx_c1 _ (List.mem_of_getElem? (i := 49) rfl) rfl
theorem gw_50 : Cond.methodLink "KeypadWriter$WordList" 3 ⟨"java/lang/Object", "<init>", "()V"⟩ ∈ gx_G := gx_c1 _ (List.mem_of_getElem? (i := 50) rfl) rfl
theorem gw_51 : Cond.fieldLink "KeypadWriter$WordList" 9 "KeypadWriter$WordList" "words" "[J" ∈ gx_G := gx_c1 _ (List.mem_of_getElem? (i := 51) rfl) rfl
theorem gw_52 : Cond.fieldLink "KeypadWriter$WordList" 15 "KeypadWriter$WordList" "keys" "[J" ∈ gx_G := gx_c1 _ (List.mem_of_getElem? (i := 52) rfl) rfl
theorem gw_53 : Cond.fieldLink "KeypadWriter$WordList" 18 "KeypadWriter$WordList" "counts" "[I" ∈ gx_G := gx_c1 _ (List.mem_of_getElem? (i := 53) rfl) rfl
theorem gw_54 : Cond.fieldLink "KeypadWriter$WordList" 22 "KeypadWriter$WordList" "times" "[I" ∈ gx_G := gx_c1 _ (List.mem_of_getElem? (i := 54) rfl) rfl
theorem gw_55 : Cond.fieldLink "KeypadWriter$WordList" 25 "KeypadWriter$WordList" "added" "[Z" ∈ gx_G := gx_c1 _ (List.mem_of_getElem? (i := 55) rfl) rfl
theorem gw_56 : Cond.fieldLink "KeypadWriter$WordList" 29 "KeypadWriter$WordList" "size" "I" ∈ gx_G := gx_c1 _ (List.mem_of_getElem? (i := 56) rfl) rfl
theorem gw_59 : Cond.laysFinal "KeypadWriter$WordList" "KeypadWriter$WordList" "words" "[J" ∈ gx_G := gx_c1 _ (List.mem_of_getElem? (i := 59) rfl) rfl
theorem gw_60 : Cond.soleField "KeypadWriter$WordList" "words" ∈ gx_G := gx_c1 _ (List.mem_of_getElem? (i := 60) rfl) rfl
theorem gw_61 : Cond.laysFinal "KeypadWriter$WordList" "KeypadWriter$WordList" "keys" "[J" ∈ gx_G := gx_c1 _ (List.mem_of_getElem? (i := 61) rfl) rfl
theorem gw_62 : Cond.soleField "KeypadWriter$WordList" "keys" ∈ gx_G := gx_c1 _ (List.mem_of_getElem? (i := 62) rfl) rfl
theorem gw_63 : Cond.laysFinal "KeypadWriter$WordList" "KeypadWriter$WordList" "counts" "[I" ∈ gx_G := gx_c1 _ (List.mem_of_getElem? (i := 63) rfl) rfl
theorem gw_64 : Cond.soleField "KeypadWriter$WordList" "counts" ∈ gx_G := gx_c1 _ (List.mem_of_getElem? (i := 64) rfl) rfl
theorem gw_65 : Cond.laysFinal "KeypadWriter$WordList" "KeypadWriter$WordList" "times" "[I" ∈ gx_G := gx_c1 _ (List.mem_of_getElem? (i := 65) rfl) rfl
theorem gw_66 : Cond.soleField "KeypadWriter$WordList" "times" ∈ gx_G := gx_c1 _ (List.mem_of_getElem? (i := 66) rfl) rfl
theorem gw_67 : Cond.laysFinal "KeypadWriter$WordList" "KeypadWriter$WordList" "added" "[Z" ∈ gx_G := gx_c1 _ (List.mem_of_getElem? (i := 67) rfl) rfl
theorem gw_68 : Cond.soleField "KeypadWriter$WordList" "added" ∈ gx_G := gx_c1 _ (List.mem_of_getElem? (i := 68) rfl) rfl
theorem gw_69 : Cond.lays "KeypadWriter$WordList" "KeypadWriter$WordList" "size" "I" ∈ gx_G := gx_c1 _ (List.mem_of_getElem? (i := 69) rfl) rfl
theorem gw_70 : Cond.soleField "KeypadWriter$WordList" "size" ∈ gx_G := gx_c1 _ (List.mem_of_getElem? (i := 70) rfl) rfl
theorem gw_71 : Cond.superclass "KeypadWriter$WordList" "java/lang/Object" ∈ gx_G := gx_c1 _ (List.mem_of_getElem? (i := 71) rfl) rfl
theorem gw_72 : Cond.arrayClass FieldType.long ∈ gx_G := gx_c1 _ (List.mem_of_getElem? (i := 72) rfl) rfl
theorem gw_73 : Cond.arrayClass FieldType.boolean ∈ gx_G := gx_c1 _ (List.mem_of_getElem? (i := 73) rfl) rfl
theorem gw_74 : Cond.classLink "KeypadWriter" 23 "KeypadWriter$State" ∈ gx_G := gx_c1 _ (List.mem_of_getElem? (i := 74) rfl) rfl
theorem gw_75 : Cond.instantiable "KeypadWriter$State" 10 ∈ gx_G := gx_c1 _ (List.mem_of_getElem? (i := 75) rfl) rfl
theorem gw_77 : Cond.instanceMethod ⟨"KeypadWriter$State", "<init>", "()V"⟩ ∈ gx_G := gx_c1 _ (List.mem_of_getElem? (i := 77) rfl) rfl
theorem gw_78 : Cond.code ⟨"KeypadWriter$State", "<init>", "()V"⟩ prog_7_method_1_code 1 none ∈ gx_G := gx_c1 _ (List.mem_of_getElem? (i := 78) rfl) rfl
theorem gw_79 : Cond.methodLink "KeypadWriter$State" 3 ⟨"java/lang/Object", "<init>", "()V"⟩ ∈ gx_G := gx_c1 _ (List.mem_of_getElem? (i := 79) rfl) rfl
theorem gw_80 : Cond.classLink "KeypadWriter$State" 9 "KeypadWriter$WordList" ∈ gx_G := gx_c1 _ (List.mem_of_getElem? (i := 80) rfl) rfl
theorem gw_82 : Cond.classLink "KeypadWriter$State" 18 "KeypadWriter$WrittenText" ∈ gx_G := gx_c1 _ (List.mem_of_getElem? (i := 82) rfl) rfl
theorem gw_83 : Cond.instantiable "KeypadWriter$WrittenText" 2 ∈ gx_G := gx_c1 _ (List.mem_of_getElem? (i := 83) rfl) rfl
theorem gw_85 : Cond.instanceMethod ⟨"KeypadWriter$WrittenText", "<init>", "()V"⟩ ∈ gx_G := gx_c1 _ (List.mem_of_getElem? (i := 85) rfl) rfl
theorem gw_86 : Cond.code ⟨"KeypadWriter$WrittenText", "<init>", "()V"⟩ prog_9_method_1_code 1 none ∈ gx_G := gx_c1 _ (List.mem_of_getElem? (i := 86) rfl) rfl
theorem gw_87 : Cond.methodLink "KeypadWriter$WrittenText" 3 ⟨"java/lang/Object", "<init>", "()V"⟩ ∈ gx_G := gx_c1 _ (List.mem_of_getElem? (i := 87) rfl) rfl
theorem gw_88 : Cond.fieldLink "KeypadWriter$WrittenText" 9 "KeypadWriter$WrittenText" "words" "[J" ∈ gx_G := gx_c1 _ (List.mem_of_getElem? (i := 88) rfl) rfl
theorem gw_89 : Cond.fieldLink "KeypadWriter$WrittenText" 21 "KeypadWriter$WrittenText" "size" "I" ∈ gx_G := gx_c1 _ (List.mem_of_getElem? (i := 89) rfl) rfl
theorem gw_91 : Cond.laysFinal "KeypadWriter$WrittenText" "KeypadWriter$WrittenText" "words" "[J" ∈ gx_G := gx_c1 _ (List.mem_of_getElem? (i := 91) rfl) rfl
theorem gw_92 : Cond.soleField "KeypadWriter$WrittenText" "words" ∈ gx_G := gx_c1 _ (List.mem_of_getElem? (i := 92) rfl) rfl
theorem gw_93 : Cond.lays "KeypadWriter$WrittenText" "KeypadWriter$WrittenText" "size" "I" ∈ gx_G := gx_c1 _ (List.mem_of_getElem? (i := 93) rfl) rfl
theorem gw_94 : Cond.soleField "KeypadWriter$WrittenText" "size" ∈ gx_G := gx_c1 _ (List.mem_of_getElem? (i := 94) rfl) rfl
theorem gw_95 : Cond.superclass "KeypadWriter$WrittenText" "java/lang/Object" ∈ gx_G := gx_c1 _ (List.mem_of_getElem? (i := 95) rfl) rfl
theorem gw_96 : Cond.fieldLink "KeypadWriter$State" 12 "KeypadWriter$State" "list" "LKeypadWriter$WordList;" ∈ gx_G := gx_c1 _ (List.mem_of_getElem? (i := 96) rfl) rfl
theorem gw_99 : Cond.fieldLink "KeypadWriter$State" 21 "KeypadWriter$State" "text" "LKeypadWriter$WrittenText;" ∈ gx_G := gx_c1 _ (List.mem_of_getElem? (i := 99) rfl) rfl
theorem gw_101 : Cond.fieldLink "KeypadWriter$State" 48 "KeypadWriter$State" "clock" "I" ∈ gx_G := gx_c1 _ (List.mem_of_getElem? (i := 101) rfl) rfl
theorem gw_103 : Cond.fieldLink "KeypadWriter$State" 25 "KeypadWriter$State" "ageing" "I" ∈ gx_G := gx_c1 _ (List.mem_of_getElem? (i := 103) rfl) rfl
theorem gw_105 : Cond.fieldLink "KeypadWriter$State" 51 "KeypadWriter$State" "completing" "Z" ∈ gx_G := gx_c1 _ (List.mem_of_getElem? (i := 105) rfl) rfl
theorem gw_108 : Cond.fieldLink "KeypadWriter$State" 55 "KeypadWriter$State" "tapping" "Z" ∈ gx_G := gx_c1 _ (List.mem_of_getElem? (i := 108) rfl) rfl
theorem gw_110 : Cond.fieldLink "KeypadWriter$State" 29 "KeypadWriter$State" "pending" "I" ∈ gx_G := gx_c1 _ (List.mem_of_getElem? (i := 110) rfl) rfl
theorem gw_112 : Cond.fieldLink "KeypadWriter$State" 34 "KeypadWriter$State" "present" "J" ∈ gx_G := gx_c1 _ (List.mem_of_getElem? (i := 112) rfl) rfl
theorem gw_115 : Cond.fieldLink "KeypadWriter$State" 58 "KeypadWriter$State" "chosen" "I" ∈ gx_G := gx_c1 _ (List.mem_of_getElem? (i := 115) rfl) rfl
theorem gw_117 : Cond.fieldLink "KeypadWriter$State" 38 "KeypadWriter$State" "opened" "I" ∈ gx_G := gx_c1 _ (List.mem_of_getElem? (i := 117) rfl) rfl
theorem gw_119 : Cond.laysFinal "KeypadWriter$State" "KeypadWriter$State" "list" "LKeypadWriter$WordList;" ∈ gx_G := gx_c1 _ (List.mem_of_getElem? (i := 119) rfl) rfl
theorem gw_120 : Cond.soleField "KeypadWriter$State" "list" ∈ gx_G := gx_c1 _ (List.mem_of_getElem? (i := 120) rfl) rfl
theorem gw_121 : Cond.laysFinal "KeypadWriter$State" "KeypadWriter$State" "text" "LKeypadWriter$WrittenText;" ∈ gx_G := gx_c1 _ (List.mem_of_getElem? (i := 121) rfl) rfl
theorem gw_122 : Cond.soleField "KeypadWriter$State" "text" ∈ gx_G := gx_c1 _ (List.mem_of_getElem? (i := 122) rfl) rfl
theorem gw_123 : Cond.lays "KeypadWriter$State" "KeypadWriter$State" "clock" "I" ∈ gx_G := gx_c1 _ (List.mem_of_getElem? (i := 123) rfl) rfl
theorem gw_124 : Cond.soleField "KeypadWriter$State" "clock" ∈ gx_G := gx_c1 _ (List.mem_of_getElem? (i := 124) rfl) rfl
theorem gw_125 : Cond.lays "KeypadWriter$State" "KeypadWriter$State" "ageing" "I" ∈ gx_G := gx_c1 _ (List.mem_of_getElem? (i := 125) rfl) rfl
theorem gw_126 : Cond.soleField "KeypadWriter$State" "ageing" ∈ gx_G := gx_c1 _ (List.mem_of_getElem? (i := 126) rfl) rfl
theorem gw_127 : Cond.lays "KeypadWriter$State" "KeypadWriter$State" "completing" "Z" ∈ gx_G := gx_c1 _ (List.mem_of_getElem? (i := 127) rfl) rfl
theorem gw_128 : Cond.soleField "KeypadWriter$State" "completing" ∈ gx_G := gx_c1 _ (List.mem_of_getElem? (i := 128) rfl) rfl
theorem gw_129 : Cond.lays "KeypadWriter$State" "KeypadWriter$State" "tapping" "Z" ∈ gx_G := gx_c1 _ (List.mem_of_getElem? (i := 129) rfl) rfl
theorem gw_130 : Cond.soleField "KeypadWriter$State" "tapping" ∈ gx_G := gx_c1 _ (List.mem_of_getElem? (i := 130) rfl) rfl
theorem gw_131 : Cond.lays "KeypadWriter$State" "KeypadWriter$State" "pending" "I" ∈ gx_G := gx_c1 _ (List.mem_of_getElem? (i := 131) rfl) rfl
theorem gw_132 : Cond.soleField "KeypadWriter$State" "pending" ∈ gx_G := gx_c1 _ (List.mem_of_getElem? (i := 132) rfl) rfl
theorem gw_133 : Cond.lays "KeypadWriter$State" "KeypadWriter$State" "present" "J" ∈ gx_G := gx_c1 _ (List.mem_of_getElem? (i := 133) rfl) rfl
theorem gw_134 : Cond.soleField "KeypadWriter$State" "present" ∈ gx_G := gx_c1 _ (List.mem_of_getElem? (i := 134) rfl) rfl
theorem gw_135 : Cond.lays "KeypadWriter$State" "KeypadWriter$State" "chosen" "I" ∈ gx_G := gx_c1 _ (List.mem_of_getElem? (i := 135) rfl) rfl
theorem gw_136 : Cond.soleField "KeypadWriter$State" "chosen" ∈ gx_G := gx_c1 _ (List.mem_of_getElem? (i := 136) rfl) rfl
theorem gw_137 : Cond.lays "KeypadWriter$State" "KeypadWriter$State" "opened" "I" ∈ gx_G := gx_c1 _ (List.mem_of_getElem? (i := 137) rfl) rfl
theorem gw_138 : Cond.soleField "KeypadWriter$State" "opened" ∈ gx_G := gx_c1 _ (List.mem_of_getElem? (i := 138) rfl) rfl
theorem gw_139 : Cond.superclass "KeypadWriter$State" "java/lang/Object" ∈ gx_G := gx_c1 _ (List.mem_of_getElem? (i := 139) rfl) rfl
theorem gw_140 : Cond.classLink "KeypadWriter" 30 "KeypadWriter$SavedStates" ∈ gx_G := gx_c1 _ (List.mem_of_getElem? (i := 140) rfl) rfl
theorem gw_141 : Cond.instantiable "KeypadWriter$SavedStates" 2 ∈ gx_G := gx_c1 _ (List.mem_of_getElem? (i := 141) rfl) rfl
theorem gw_142 : Cond.methodLink "KeypadWriter" 32 ⟨"KeypadWriter$SavedStates", "<init>", "()V"⟩ ∈ gx_G := gx_c1 _ (List.mem_of_getElem? (i := 142) rfl) rfl
theorem gw_143 : Cond.instanceMethod ⟨"KeypadWriter$SavedStates", "<init>", "()V"⟩ ∈ gx_G := gx_c1 _ (List.mem_of_getElem? (i := 143) rfl) rfl
theorem gw_144 : Cond.code ⟨"KeypadWriter$SavedStates", "<init>", "()V"⟩ prog_5_method_1_code 2 none ∈ gx_G := gx_c1 _ (List.mem_of_getElem? (i := 144) rfl) rfl
theorem gw_145 : Cond.methodLink "KeypadWriter$SavedStates" 3 ⟨"java/lang/Object", "<init>", "()V"⟩ ∈ gx_G := gx_c1 _ (List.mem_of_getElem? (i := 145) rfl) rfl
theorem gw_146 : Cond.classLink "KeypadWriter$SavedStates" 9 "KeypadWriter$State" ∈ gx_G := gx_c1 _ (List.mem_of_getElem? (i := 146) rfl) rfl
theorem gw_149 : Cond.fieldLink "KeypadWriter$SavedStates" 11 "KeypadWriter$SavedStates" "states" "[LKeypadWriter$State;" ∈ gx_G := gx_c1 _ (List.mem_of_getElem? (i := 149) rfl) rfl
theorem gw_150 : Cond.fieldLink "KeypadWriter$SavedStates" 18 "KeypadWriter$SavedStates" "size" "I" ∈ gx_G := gx_c1 _ (List.mem_of_getElem? (i := 150) rfl) rfl
theorem gw_152 : Cond.laysFinal "KeypadWriter$SavedStates" "KeypadWriter$SavedStates" "states" "[LKeypadWriter$State;" ∈ gx_G := gx_c1 _ (List.mem_of_getElem? (i := 152) rfl) rfl
theorem gw_153 : Cond.soleField "KeypadWriter$SavedStates" "states" ∈ gx_G := gx_c1 _ (List.mem_of_getElem? (i := 153) rfl) rfl
theorem gw_154 : Cond.lays "KeypadWriter$SavedStates" "KeypadWriter$SavedStates" "size" "I" ∈ gx_G := gx_c1 _ (List.mem_of_getElem? (i := 154) rfl) rfl
theorem gw_155 : Cond.soleField "KeypadWriter$SavedStates" "size" ∈ gx_G := gx_c1 _ (List.mem_of_getElem? (i := 155) rfl) rfl
theorem gw_156 : Cond.superclass "KeypadWriter$SavedStates" "java/lang/Object" ∈ gx_G := gx_c1 _ (List.mem_of_getElem? (i := 156) rfl) rfl
theorem gw_157 : Cond.classLink "KeypadWriter" 37 "KeypadWriter$Candidates" ∈ gx_G := gx_c1 _ (List.mem_of_getElem? (i := 157) rfl) rfl
theorem gw_158 : Cond.instantiable "KeypadWriter$Candidates" 2 ∈ gx_G := gx_c1 _ (List.mem_of_getElem? (i := 158) rfl) rfl
theorem gw_160 : Cond.instanceMethod ⟨"KeypadWriter$Candidates", "<init>", "()V"⟩ ∈ gx_G := gx_c1 _ (List.mem_of_getElem? (i := 160) rfl) rfl
theorem gw_161 : Cond.code ⟨"KeypadWriter$Candidates", "<init>", "()V"⟩ prog_2_method_1_code 1 none ∈ gx_G := gx_c1 _ (List.mem_of_getElem? (i := 161) rfl) rfl
theorem gw_162 : Cond.methodLink "KeypadWriter$Candidates" 3 ⟨"java/lang/Object", "<init>", "()V"⟩ ∈ gx_G := gx_c1 _ (List.mem_of_getElem? (i := 162) rfl) rfl
theorem gw_163 : Cond.fieldLink "KeypadWriter$Candidates" 9 "KeypadWriter$Candidates" "order" "[I" ∈ gx_G := gx_c1 _ (List.mem_of_getElem? (i := 163) rfl) rfl
theorem gw_164 : Cond.fieldLink "KeypadWriter$Candidates" 15 "KeypadWriter$Candidates" "size" "I" ∈ gx_G := gx_c1 _ (List.mem_of_getElem? (i := 164) rfl) rfl
theorem gw_166 : Cond.laysFinal "KeypadWriter$Candidates" "KeypadWriter$Candidates" "order" "[I" ∈ gx_G := gx_c1 _ (List.mem_of_getElem? (i := 166) rfl) rfl
theorem gw_167 : Cond.soleField "KeypadWriter$Candidates" "order" ∈ gx_G := gx_c1 _ (List.mem_of_getElem? (i := 167) rfl) rfl
theorem gw_168 : Cond.lays "KeypadWriter$Candidates" "KeypadWriter$Candidates" "size" "I" ∈ gx_G := gx_c1 _ (List.mem_of_getElem? (i := 168) rfl) rfl
theorem gw_169 : Cond.soleField "KeypadWriter$Candidates" "size" ∈ gx_G := gx_c1 _ (List.mem_of_getElem? (i := 169) rfl) rfl
theorem gw_170 : Cond.superclass "KeypadWriter$Candidates" "java/lang/Object" ∈ gx_G := gx_c1 _ (List.mem_of_getElem? (i := 170) rfl) rfl
theorem gw_171 : Cond.fieldLink "KeypadWriter" 10 "KeypadWriter" "listText" "LKeypadWriter$ListText;" ∈ gx_G := gx_c1 _ (List.mem_of_getElem? (i := 171) rfl) rfl
theorem gw_172 : Cond.fieldLink "KeypadWriter" 19 "KeypadWriter" "listRead" "LKeypadWriter$WordList;" ∈ gx_G := gx_c1 _ (List.mem_of_getElem? (i := 172) rfl) rfl
theorem gw_173 : Cond.fieldLink "KeypadWriter" 26 "KeypadWriter" "state" "LKeypadWriter$State;" ∈ gx_G := gx_c1 _ (List.mem_of_getElem? (i := 173) rfl) rfl
theorem gw_174 : Cond.fieldLink "KeypadWriter" 33 "KeypadWriter" "saved" "LKeypadWriter$SavedStates;" ∈ gx_G := gx_c1 _ (List.mem_of_getElem? (i := 174) rfl) rfl
theorem gw_175 : Cond.fieldLink "KeypadWriter" 40 "KeypadWriter" "candidates" "LKeypadWriter$Candidates;" ∈ gx_G := gx_c1 _ (List.mem_of_getElem? (i := 175) rfl) rfl
theorem gw_176 : Cond.laysFinal "KeypadWriter" "KeypadWriter" "listText" "LKeypadWriter$ListText;" ∈ gx_G := gx_c1 _ (List.mem_of_getElem? (i := 176) rfl) rfl
theorem gw_177 : Cond.soleField "KeypadWriter" "listText" ∈ gx_G := gx_c1 _ (List.mem_of_getElem? (i := 177) rfl) rfl
theorem gw_178 : Cond.laysFinal "KeypadWriter" "KeypadWriter" "listRead" "LKeypadWriter$WordList;" ∈ gx_G := gx_c1 _ (List.mem_of_getElem? (i := 178) rfl) rfl
theorem gw_179 : Cond.soleField "KeypadWriter" "listRead" ∈ gx_G := gx_c1 _ (List.mem_of_getElem? (i := 179) rfl) rfl
theorem gw_180 : Cond.laysFinal "KeypadWriter" "KeypadWriter" "state" "LKeypadWriter$State;" ∈ gx_G := gx_c1 _ (List.mem_of_getElem? (i := 180) rfl) rfl
theorem gw_181 : Cond.soleField "KeypadWriter" "state" ∈ gx_G := gx_c1 _ (List.mem_of_getElem? (i := 181) rfl) rfl
theorem gw_182 : Cond.laysFinal "KeypadWriter" "KeypadWriter" "saved" "LKeypadWriter$SavedStates;" ∈ gx_G := gx_c1 _ (List.mem_of_getElem? (i := 182) rfl) rfl
theorem gw_183 : Cond.soleField "KeypadWriter" "saved" ∈ gx_G := gx_c1 _ (List.mem_of_getElem? (i := 183) rfl) rfl
theorem gw_184 : Cond.laysFinal "KeypadWriter" "KeypadWriter" "candidates" "LKeypadWriter$Candidates;" ∈ gx_G := gx_c1 _ (List.mem_of_getElem? (i := 184) rfl) rfl
theorem gw_185 : Cond.soleField "KeypadWriter" "candidates" ∈ gx_G := gx_c1 _ (List.mem_of_getElem? (i := 185) rfl) rfl
theorem gw_186 : Cond.superclass "KeypadWriter" "java/lang/Object" ∈ gx_G := gx_c1 _ (List.mem_of_getElem? (i := 186) rfl) rfl
theorem gw_187 : Cond.methodLink "KeypadWriterLaw" 87 ⟨"KeypadWriter", "clearText", "()I"⟩ ∈ gx_G := gx_c1 _ (List.mem_of_getElem? (i := 187) rfl) rfl
theorem gw_188 : Cond.instanceMethod ⟨"KeypadWriter", "clearText", "()I"⟩ ∈ gx_G := gx_c1 _ (List.mem_of_getElem? (i := 188) rfl) rfl
theorem gw_189 : Cond.selects "KeypadWriter" ⟨"KeypadWriter", "clearText", "()I"⟩ ⟨"KeypadWriter", "clearText", "()I"⟩ ∈ gx_G := gx_c1 _ (List.mem_of_getElem? (i := 189) rfl) rfl
theorem gw_190 : Cond.code ⟨"KeypadWriter", "clearText", "()I"⟩ prog_1_method_3_code 2 (Option.some FieldType.int) ∈ gx_G := gx_c1 _ (List.mem_of_getElem? (i := 190) rfl) rfl
theorem gw_191 : Cond.methodLink "KeypadWriter" 68 ⟨"KeypadWriter$ListText", "clear", "()V"⟩ ∈ gx_G := gx_c1 _ (List.mem_of_getElem? (i := 191) rfl) rfl
theorem gw_192 : Cond.instanceMethod ⟨"KeypadWriter$ListText", "clear", "()V"⟩ ∈ gx_G := gx_c1 _ (List.mem_of_getElem? (i := 192) rfl) rfl
theorem gw_193 : Cond.selects "KeypadWriter$ListText" ⟨"KeypadWriter$ListText", "clear", "()V"⟩ ⟨"KeypadWriter$ListText", "clear", "()V"⟩ ∈ gx_G := gx_c1 _ (List.mem_of_getElem? (i := 193) rfl) rfl
theorem gw_194 : Cond.code ⟨"KeypadWriter$ListText", "clear", "()V"⟩ prog_4_method_3_code 1 none ∈ gx_G := gx_c1 _ (List.mem_of_getElem? (i := 194) rfl) rfl
theorem gw_195 : Cond.methodLink "KeypadWriterLaw" 91 ⟨"KeypadWriter", "load", "()I"⟩ ∈ gx_G := gx_c1 _ (List.mem_of_getElem? (i := 195) rfl) rfl
theorem gw_196 : Cond.instanceMethod ⟨"KeypadWriter", "load", "()I"⟩ ∈ gx_G := gx_c1 _ (List.mem_of_getElem? (i := 196) rfl) rfl
theorem gw_197 : Cond.selects "KeypadWriter" ⟨"KeypadWriter", "load", "()I"⟩ ⟨"KeypadWriter", "load", "()I"⟩ ∈ gx_G := gx_c1 _ (List.mem_of_getElem? (i := 197) rfl) rfl
theorem gw_198 : Cond.code ⟨"KeypadWriter", "load", "()I"⟩ prog_1_method_4_code 2 (Option.some FieldType.int) ∈ gx_G := gx_c1 _ (List.mem_of_getElem? (i := 198) rfl) rfl
theorem gw_199 : Cond.methodLink "KeypadWriter" 71 ⟨"KeypadWriter$ListText", "readInto", "(LKeypadWriter$WordList;)I"⟩ ∈ gx_G := gx_c1 _ (List.mem_of_getElem? (i := 199) rfl) rfl
theorem gw_200 : Cond.instanceMethod ⟨"KeypadWriter$ListText", "readInto", "(LKeypadWriter$WordList;)I"⟩ ∈ gx_G := gx_c1 _ (List.mem_of_getElem? (i := 200) rfl) rfl
theorem gw_201 : Cond.selects "KeypadWriter$ListText" ⟨"KeypadWriter$ListText", "readInto", "(LKeypadWriter$WordList;)I"⟩ ⟨"KeypadWriter$ListText", "readInto", "(LKeypadWriter$WordList;)I"⟩ ∈ gx_G := gx_c1 _ (List.mem_of_getElem? (i := 201) rfl) rfl
theorem gw_202 : Cond.code ⟨"KeypadWriter$ListText", "readInto", "(LKeypadWriter$WordList;)I"⟩ prog_4_method_5_code 3 (Option.some FieldType.int) ∈ gx_G := gx_c1 _ (List.mem_of_getElem? (i := 202) rfl) rfl
theorem gw_203 : Cond.methodLink "KeypadWriter$ListText" 23 ⟨"KeypadWriter$WordList", "clear", "()V"⟩ ∈ gx_G := gx_c1 _ (List.mem_of_getElem? (i := 203) rfl) rfl
theorem gw_204 : Cond.instanceMethod ⟨"KeypadWriter$WordList", "clear", "()V"⟩ ∈ gx_G := gx_c1 _ (List.mem_of_getElem? (i := 204) rfl) rfl
theorem gw_205 : Cond.selects "KeypadWriter$WordList" ⟨"KeypadWriter$WordList", "clear", "()V"⟩ ⟨"KeypadWriter$WordList", "clear", "()V"⟩ ∈ gx_G := gx_c1 _ (List.mem_of_getElem? (i := 205) rfl) rfl
theorem gw_206 : Cond.code ⟨"KeypadWriter$WordList", "clear", "()V"⟩ prog_8_method_2_code 1 none ∈ gx_G := gx_c1 _ (List.mem_of_getElem? (i := 206) rfl) rfl
theorem gw_207 : Cond.methodLink "KeypadWriter$ListText" 31 ⟨"KeypadWriter$ListText", "readItem", "(LKeypadWriter$WordList;)Z"⟩ ∈ gx_G := gx_c1 _ (List.mem_of_getElem? (i := 207) rfl) rfl
theorem gw_209 : Cond.instanceMethod ⟨"KeypadWriter$ListText", "readItem", "(LKeypadWriter$WordList;)Z"⟩ ∈ gx_G := gx_c1 _ (List.mem_of_getElem? (i := 209) rfl) rfl
theorem gw_210 : Cond.code ⟨"KeypadWriter$ListText", "readItem", "(LKeypadWriter$WordList;)Z"⟩ prog_4_method_6_code 6 (Option.some FieldType.boolean) ∈ gx_G := gx_c1 _ (List.mem_of_getElem? (i := 210) rfl) rfl
theorem gw_211 : Cond.methodLink "KeypadWriter$ListText" 35 ⟨"KeypadWriter$WordList", "isFull", "()Z"⟩ ∈ gx_G := gx_c1 _ (List.mem_of_getElem? (i := 211) rfl) rfl
theorem gw_212 : Cond.instanceMethod ⟨"KeypadWriter$WordList", "isFull", "()Z"⟩ ∈ gx_G := gx_c1 _ (List.mem_of_getElem? (i := 212) rfl) rfl
theorem gw_213 : Cond.selects "KeypadWriter$WordList" ⟨"KeypadWriter$WordList", "isFull", "()Z"⟩ ⟨"KeypadWriter$WordList", "isFull", "()Z"⟩ ∈ gx_G := gx_c1 _ (List.mem_of_getElem? (i := 213) rfl) rfl
theorem gw_214 : Cond.code ⟨"KeypadWriter$WordList", "isFull", "()Z"⟩ prog_8_method_5_code 1 (Option.some FieldType.boolean) ∈ gx_G := gx_c1 _ (List.mem_of_getElem? (i := 214) rfl) rfl
theorem gw_215 : Cond.methodLink "KeypadWriter$ListText" 36 ⟨"KeypadWriter$ListText", "readWord", "()J"⟩ ∈ gx_G := gx_c1 _ (List.mem_of_getElem? (i := 215) rfl) rfl
theorem gw_217 : Cond.instanceMethod ⟨"KeypadWriter$ListText", "readWord", "()J"⟩ ∈ gx_G := gx_c1 _ (List.mem_of_getElem? (i := 217) rfl) rfl
theorem gw_218 : Cond.code ⟨"KeypadWriter$ListText", "readWord", "()J"⟩ prog_4_method_7_code 4 (Option.some FieldType.long) ∈ gx_G := gx_c1 _ (List.mem_of_getElem? (i := 218) rfl) rfl
theorem gw_219 : Cond.methodLink "KeypadWriter$ListText" 57 ⟨"KeypadWriter$ListText", "isHere", "(II)Z"⟩ ∈ gx_G := gx_c1 _ (List.mem_of_getElem? (i := 219) rfl) rfl
theorem gw_221 : Cond.instanceMethod ⟨"KeypadWriter$ListText", "isHere", "(II)Z"⟩ ∈ gx_G := gx_c1 _ (List.mem_of_getElem? (i := 221) rfl) rfl
theorem gw_222 : Cond.code ⟨"KeypadWriter$ListText", "isHere", "(II)Z"⟩ prog_4_method_9_code 4 (Option.some FieldType.boolean) ∈ gx_G := gx_c1 _ (List.mem_of_getElem? (i := 222) rfl) rfl
theorem gw_223 : Cond.methodLink "KeypadWriter$ListText" 42 ⟨"KeypadWriter$ListText", "byteHere", "()I"⟩ ∈ gx_G := gx_c1 _ (List.mem_of_getElem? (i := 223) rfl) rfl
theorem gw_225 : Cond.instanceMethod ⟨"KeypadWriter$ListText", "byteHere", "()I"⟩ ∈ gx_G := gx_c1 _ (List.mem_of_getElem? (i := 225) rfl) rfl
theorem gw_226 : Cond.code ⟨"KeypadWriter$ListText", "byteHere", "()I"⟩ prog_4_method_10_code 1 (Option.some FieldType.int) ∈ gx_G := gx_c1 _ (List.mem_of_getElem? (i := 226) rfl) rfl
theorem gw_227 : Cond.methodLink "KeypadWriter$ListText" 61 ⟨"KeypadWriter$Slots", "codeOfLetter", "(I)I"⟩ ∈ gx_G := gx_c1 _ (List.mem_of_getElem? (i := 227) rfl) rfl
theorem gw_228 : Cond.static ⟨"KeypadWriter$Slots", "codeOfLetter", "(I)I"⟩ ∈ gx_G := gx_c1 _ (List.mem_of_getElem? (i := 228) rfl) rfl
theorem gw_229 : Cond.code ⟨"KeypadWriter$Slots", "codeOfLetter", "(I)I"⟩ prog_6_method_2_code 1 (Option.some FieldType.int) ∈ gx_G := gx_c1 _ (List.mem_of_getElem? (i := 229) rfl) rfl
theorem gw_230 : Cond.methodLink "KeypadWriter$ListText" 65 ⟨"KeypadWriter$Slots", "with", "(JII)J"⟩ ∈ gx_G := gx_c1 _ (List.mem_of_getElem? (i := 230) rfl) rfl
theorem gw_231 : Cond.static ⟨"KeypadWriter$Slots", "with", "(JII)J"⟩ ∈ gx_G := gx_c1 _ (List.mem_of_getElem? (i := 231) rfl) rfl
theorem gw_232 : Cond.code ⟨"KeypadWriter$Slots", "with", "(JII)J"⟩ prog_6_method_11_code 5 (Option.some FieldType.long) ∈ gx_G := gx_c1 _ (List.mem_of_getElem? (i := 232) rfl) rfl
theorem gw_233 : Cond.constantLong "KeypadWriter$Slots" 11 (63 : Int64) ∈ gx_G := gx_c1 _ (List.mem_of_getElem? (i := 233) rfl) rfl
theorem gw_234 : Cond.constantLong "KeypadWriter$Slots" 21 (-1 : Int64) ∈ gx_G := gx_c1 _ (List.mem_of_getElem? (i := 234) rfl) rfl
theorem gw_235 : Cond.methodLink "KeypadWriter$ListText" 46 ⟨"KeypadWriter$WordList", "find", "(J)I"⟩ ∈ gx_G := gx_c1 _ (List.mem_of_getElem? (i := 235) rfl) rfl
theorem gw_236 : Cond.instanceMethod ⟨"KeypadWriter$WordList", "find", "(J)I"⟩ ∈ gx_G := gx_c1 _ (List.mem_of_getElem? (i := 236) rfl) rfl
theorem gw_237 : Cond.selects "KeypadWriter$WordList" ⟨"KeypadWriter$WordList", "find", "(J)I"⟩ ⟨"KeypadWriter$WordList", "find", "(J)I"⟩ ∈ gx_G := gx_c1 _ (List.mem_of_getElem? (i := 237) rfl) rfl
theorem gw_238 : Cond.code ⟨"KeypadWriter$WordList", "find", "(J)I"⟩ prog_8_method_12_code 4 (Option.some FieldType.int) ∈ gx_G := gx_c1 _ (List.mem_of_getElem? (i := 238) rfl) rfl
theorem gw_239 : Cond.methodLink "KeypadWriter$WordList" 45 ⟨"KeypadWriter$WordList", "wordAt", "(I)J"⟩ ∈ gx_G := gx_c1 _ (List.mem_of_getElem? (i := 239) rfl) rfl
theorem gw_240 : Cond.instanceMethod ⟨"KeypadWriter$WordList", "wordAt", "(I)J"⟩ ∈ gx_G := gx_c2 _ (List.mem_of_getElem? (i := 0) rfl) rfl
theorem gw_241 : Cond.selects "KeypadWriter$WordList" ⟨"KeypadWriter$WordList", "wordAt", "(I)J"⟩ ⟨"KeypadWriter$WordList", "wordAt", "(I)J"⟩ ∈ gx_G := gx_c2 _ (List.mem_of_getElem? (i := 1) rfl) rfl
theorem gw_242 : Cond.code ⟨"KeypadWriter$WordList", "wordAt", "(I)J"⟩ prog_8_method_6_code 2 (Option.some FieldType.long) ∈ gx_G := gx_c2 _ (List.mem_of_getElem? (i := 2) rfl) rfl
theorem gw_243 : Cond.methodLink "KeypadWriter$WordList" 39 ⟨"KeypadWriter$WordList", "has", "(I)Z"⟩ ∈ gx_G := gx_c2 _ (List.mem_of_getElem? (i := 3) rfl) rfl
theorem gw_244 : Cond.instanceMethod ⟨"KeypadWriter$WordList", "has", "(I)Z"⟩ ∈ gx_G := gx_c2 _ (List.mem_of_getElem? (i := 4) rfl) rfl
theorem gw_245 : Cond.selects "KeypadWriter$WordList" ⟨"KeypadWriter$WordList", "has", "(I)Z"⟩ ⟨"KeypadWriter$WordList", "has", "(I)Z"⟩ ∈ gx_G := gx_c2 _ (List.mem_of_getElem? (i := 5) rfl) rfl
theorem gw_246 : Cond.code ⟨"KeypadWriter$WordList", "has", "(I)Z"⟩ prog_8_method_4_code 2 (Option.some FieldType.boolean) ∈ gx_G := gx_c2 _ (List.mem_of_getElem? (i := 6) rfl) rfl
theorem gw_247 : Cond.methodLink "KeypadWriter$ListText" 50 ⟨"KeypadWriter$ListText", "readCount", "()I"⟩ ∈ gx_G := gx_c2 _ (List.mem_of_getElem? (i := 7) rfl) rfl
theorem gw_249 : Cond.instanceMethod ⟨"KeypadWriter$ListText", "readCount", "()I"⟩ ∈ gx_G := gx_c2 _ (List.mem_of_getElem? (i := 9) rfl) rfl
theorem gw_250 : Cond.code ⟨"KeypadWriter$ListText", "readCount", "()I"⟩ prog_4_method_8_code 3 (Option.some FieldType.int) ∈ gx_G := gx_c2 _ (List.mem_of_getElem? (i := 10) rfl) rfl
theorem gw_251 : Cond.methodLink "KeypadWriter$ListText" 53 ⟨"KeypadWriter$WordList", "insert", "(JIIZ)V"⟩ ∈ gx_G := gx_c2 _ (List.mem_of_getElem? (i := 11) rfl) rfl
theorem gw_252 : Cond.instanceMethod ⟨"KeypadWriter$WordList", "insert", "(JIIZ)V"⟩ ∈ gx_G := gx_c2 _ (List.mem_of_getElem? (i := 12) rfl) rfl
theorem gw_253 : Cond.selects "KeypadWriter$WordList" ⟨"KeypadWriter$WordList", "insert", "(JIIZ)V"⟩ ⟨"KeypadWriter$WordList", "insert", "(JIIZ)V"⟩ ∈ gx_G := gx_c2 _ (List.mem_of_getElem? (i := 13) rfl) rfl
theorem gw_254 : Cond.code ⟨"KeypadWriter$WordList", "insert", "(JIIZ)V"⟩ prog_8_method_16_code 6 none ∈ gx_G := gx_c2 _ (List.mem_of_getElem? (i := 14) rfl) rfl
theorem gw_255 : Cond.methodLink "KeypadWriter$WordList" 77 ⟨"KeypadWriter$WordList", "isFull", "()Z"⟩ ∈ gx_G := gx_c2 _ (List.mem_of_getElem? (i := 15) rfl) rfl
theorem gw_256 : Cond.methodLink "KeypadWriter$WordList" 81 ⟨"KeypadWriter$Slots", "keysOf", "(J)J"⟩ ∈ gx_G := gx_c2 _ (List.mem_of_getElem? (i := 16) rfl) rfl
theorem gw_257 : Cond.static ⟨"KeypadWriter$Slots", "keysOf", "(J)J"⟩ ∈ gx_G := gx_c2 _ (List.mem_of_getElem? (i := 17) rfl) rfl
theorem gw_258 : Cond.code ⟨"KeypadWriter$Slots", "keysOf", "(J)J"⟩ prog_6_method_13_code 6 (Option.some FieldType.long) ∈ gx_G := gx_c2 _ (List.mem_of_getElem? (i := 18) rfl) rfl
theorem gw_259 : Cond.methodLink "KeypadWriter$Slots" 27 ⟨"KeypadWriter$Slots", "lengthOf", "(J)I"⟩ ∈ gx_G := gx_c2 _ (List.mem_of_getElem? (i := 19) rfl) rfl
theorem gw_260 : Cond.static ⟨"KeypadWriter$Slots", "lengthOf", "(J)I"⟩ ∈ gx_G := gx_c2 _ (List.mem_of_getElem? (i := 20) rfl) rfl
theorem gw_261 : Cond.code ⟨"KeypadWriter$Slots", "lengthOf", "(J)I"⟩ prog_6_method_10_code 3 (Option.some FieldType.int) ∈ gx_G := gx_c2 _ (List.mem_of_getElem? (i := 21) rfl) rfl
theorem gw_262 : Cond.methodLink "KeypadWriter$Slots" 13 ⟨"KeypadWriter$Slots", "codeAt", "(JI)I"⟩ ∈ gx_G := gx_c2 _ (List.mem_of_getElem? (i := 22) rfl) rfl
theorem gw_263 : Cond.static ⟨"KeypadWriter$Slots", "codeAt", "(JI)I"⟩ ∈ gx_G := gx_c2 _ (List.mem_of_getElem? (i := 23) rfl) rfl
theorem gw_264 : Cond.code ⟨"KeypadWriter$Slots", "codeAt", "(JI)I"⟩ prog_6_method_7_code 3 (Option.some FieldType.int) ∈ gx_G := gx_c2 _ (List.mem_of_getElem? (i := 24) rfl) rfl
theorem gw_265 : Cond.methodLink "KeypadWriter$Slots" 31 ⟨"KeypadWriter$Slots", "letterAt", "(JI)I"⟩ ∈ gx_G := gx_c2 _ (List.mem_of_getElem? (i := 25) rfl) rfl
theorem gw_266 : Cond.static ⟨"KeypadWriter$Slots", "letterAt", "(JI)I"⟩ ∈ gx_G := gx_c2 _ (List.mem_of_getElem? (i := 26) rfl) rfl
theorem gw_267 : Cond.code ⟨"KeypadWriter$Slots", "letterAt", "(JI)I"⟩ prog_6_method_8_code 3 (Option.some FieldType.int) ∈ gx_G := gx_c2 _ (List.mem_of_getElem? (i := 27) rfl) rfl
theorem gw_268 : Cond.methodLink "KeypadWriter$Slots" 17 ⟨"KeypadWriter$Slots", "letterOf", "(I)I"⟩ ∈ gx_G := gx_c2 _ (List.mem_of_getElem? (i := 28) rfl) rfl
theorem gw_269 : Cond.static ⟨"KeypadWriter$Slots", "letterOf", "(I)I"⟩ ∈ gx_G := gx_c2 _ (List.mem_of_getElem? (i := 29) rfl) rfl
theorem gw_270 : Cond.code ⟨"KeypadWriter$Slots", "letterOf", "(I)I"⟩ prog_6_method_5_code 1 (Option.some FieldType.int) ∈ gx_G := gx_c2 _ (List.mem_of_getElem? (i := 30) rfl) rfl
theorem gw_271 : Cond.methodLink "KeypadWriter$Slots" 34 ⟨"KeypadWriter$Keys", "keyWith", "(I)I"⟩ ∈ gx_G := gx_c2 _ (List.mem_of_getElem? (i := 31) rfl) rfl
theorem gw_272 : Cond.static ⟨"KeypadWriter$Keys", "keyWith", "(I)I"⟩ ∈ gx_G := gx_c2 _ (List.mem_of_getElem? (i := 32) rfl) rfl
theorem gw_273 : Cond.code ⟨"KeypadWriter$Keys", "keyWith", "(I)I"⟩ prog_3_method_3_code 1 (Option.some FieldType.int) ∈ gx_G := gx_c2 _ (List.mem_of_getElem? (i := 33) rfl) rfl
theorem gw_274 : Cond.fieldLink "KeypadWriter$Keys" 11 "KeypadWriter$Keys" "KEY_OF_LETTER" "[I" ∈ gx_G := gx_c2 _ (List.mem_of_getElem? (i := 34) rfl) rfl
theorem gw_276 : Cond.methodLink "KeypadWriter$Slots" 39 ⟨"KeypadWriter$Slots", "codeOfKey", "(I)I"⟩ ∈ gx_G := gx_c2 _ (List.mem_of_getElem? (i := 36) rfl) rfl
theorem gw_277 : Cond.static ⟨"KeypadWriter$Slots", "codeOfKey", "(I)I"⟩ ∈ gx_G := gx_c2 _ (List.mem_of_getElem? (i := 37) rfl) rfl
theorem gw_278 : Cond.code ⟨"KeypadWriter$Slots", "codeOfKey", "(I)I"⟩ prog_6_method_3_code 1 (Option.some FieldType.int) ∈ gx_G := gx_c2 _ (List.mem_of_getElem? (i := 38) rfl) rfl
theorem gw_279 : Cond.methodLink "KeypadWriter$Slots" 23 ⟨"KeypadWriter$Slots", "with", "(JII)J"⟩ ∈ gx_G := gx_c2 _ (List.mem_of_getElem? (i := 39) rfl) rfl
theorem gw_280 : Cond.methodLink "KeypadWriter" 75 ⟨"KeypadWriter$SavedStates", "push", "(LKeypadWriter$State;)V"⟩ ∈ gx_G := gx_c2 _ (List.mem_of_getElem? (i := 40) rfl) rfl
theorem gw_281 : Cond.instanceMethod ⟨"KeypadWriter$SavedStates", "push", "(LKeypadWriter$State;)V"⟩ ∈ gx_G := gx_c2 _ (List.mem_of_getElem? (i := 41) rfl) rfl
theorem gw_282 : Cond.selects "KeypadWriter$SavedStates" ⟨"KeypadWriter$SavedStates", "push", "(LKeypadWriter$State;)V"⟩ ⟨"KeypadWriter$SavedStates", "push", "(LKeypadWriter$State;)V"⟩ ∈ gx_G := gx_c2 _ (List.mem_of_getElem? (i := 42) rfl) rfl
theorem gw_283 : Cond.code ⟨"KeypadWriter$SavedStates", "push", "(LKeypadWriter$State;)V"⟩ prog_5_method_2_code 3 none ∈ gx_G := gx_c2 _ (List.mem_of_getElem? (i := 43) rfl) rfl
theorem gw_284 : Cond.methodLink "KeypadWriter$SavedStates" 22 ⟨"KeypadWriter$SavedStates", "dropOldest", "()V"⟩ ∈ gx_G := gx_c2 _ (List.mem_of_getElem? (i := 44) rfl) rfl
theorem gw_286 : Cond.instanceMethod ⟨"KeypadWriter$SavedStates", "dropOldest", "()V"⟩ ∈ gx_G := gx_c2 _ (List.mem_of_getElem? (i := 46) rfl) rfl
theorem gw_287 : Cond.code ⟨"KeypadWriter$SavedStates", "dropOldest", "()V"⟩ prog_5_method_5_code 3 none ∈ gx_G := gx_c2 _ (List.mem_of_getElem? (i := 47) rfl) rfl
theorem gw_288 : Cond.methodLink "KeypadWriter$SavedStates" 25 ⟨"KeypadWriter$SavedStates", "stateAt", "(I)LKeypadWriter$State;"⟩ ∈ gx_G := gx_c2 _ (List.mem_of_getElem? (i := 48) rfl) rfl
theorem gw_290 : Cond.instanceMethod ⟨"KeypadWriter$SavedStates", "stateAt", "(I)LKeypadWriter$State;"⟩ ∈ gx_G := gx_c2 _ (List.mem_of_getElem? (i := 50) rfl) rfl
theorem gw_291 : Cond.code ⟨"KeypadWriter$SavedStates", "stateAt", "(I)LKeypadWriter$State;"⟩ prog_5_method_4_code 2 (Option.some (FieldType.object "KeypadWriter$State")) ∈ gx_G := gx_c2 _ (List.mem_of_getElem? (i := 51) rfl) rfl
theorem gw_292 : Cond.methodLink "KeypadWriter$SavedStates" 29 ⟨"KeypadWriter$State", "copyFrom", "(LKeypadWriter$State;)V"⟩ ∈ gx_G := gx_c2 _ (List.mem_of_getElem? (i := 52) rfl) rfl
theorem gw_293 : Cond.instanceMethod ⟨"KeypadWriter$State", "copyFrom", "(LKeypadWriter$State;)V"⟩ ∈ gx_G := gx_c2 _ (List.mem_of_getElem? (i := 53) rfl) rfl
theorem gw_294 : Cond.selects "KeypadWriter$State" ⟨"KeypadWriter$State", "copyFrom", "(LKeypadWriter$State;)V"⟩ ⟨"KeypadWriter$State", "copyFrom", "(LKeypadWriter$State;)V"⟩ ∈ gx_G := gx_c2 _ (List.mem_of_getElem? (i := 54) rfl) rfl
theorem gw_295 : Cond.code ⟨"KeypadWriter$State", "copyFrom", "(LKeypadWriter$State;)V"⟩ prog_7_method_2_code 2 none ∈ gx_G := gx_c2 _ (List.mem_of_getElem? (i := 55) rfl) rfl
theorem gw_296 : Cond.methodLink "KeypadWriter$State" 41 ⟨"KeypadWriter$WordList", "copyFrom", "(LKeypadWriter$WordList;)V"⟩ ∈ gx_G := gx_c2 _ (List.mem_of_getElem? (i := 56) rfl) rfl
theorem gw_297 : Cond.instanceMethod ⟨"KeypadWriter$WordList", "copyFrom", "(LKeypadWriter$WordList;)V"⟩ ∈ gx_G := gx_c2 _ (List.mem_of_getElem? (i := 57) rfl) rfl
theorem gw_298 : Cond.selects "KeypadWriter$WordList" ⟨"KeypadWriter$WordList", "copyFrom", "(LKeypadWriter$WordList;)V"⟩ ⟨"KeypadWriter$WordList", "copyFrom", "(LKeypadWriter$WordList;)V"⟩ ∈ gx_G := gx_c2 _ (List.mem_of_getElem? (i := 58) rfl) rfl
theorem gw_299 : Cond.code ⟨"KeypadWriter$WordList", "copyFrom", "(LKeypadWriter$WordList;)V"⟩ prog_8_method_3_code 3 none ∈ gx_G := gx_c2 _ (List.mem_of_getElem? (i := 59) rfl) rfl
theorem gw_300 : Cond.methodLink "KeypadWriter$WordList" 33 ⟨"java/lang/System", "arraycopy", "(Ljava/lang/Object;ILjava/lang/Object;II)V"⟩ ∈ gx_G := gx_c2 _ (List.mem_of_getElem? (i := 60) rfl) rfl
theorem gw_301 : Cond.static ⟨"java/lang/System", "arraycopy", "(Ljava/lang/Object;ILjava/lang/Object;II)V"⟩ ∈ gx_G := gx_c2 _ (List.mem_of_getElem? (i := 61) rfl) rfl
theorem gw_302 : Cond.native ⟨"java/lang/System", "arraycopy", "(Ljava/lang/Object;ILjava/lang/Object;II)V"⟩ ∈ gx_G := gx_c2 _ (List.mem_of_getElem? (i := 62) rfl) rfl
theorem gw_303 : Cond.methodLink "KeypadWriter$State" 45 ⟨"KeypadWriter$WrittenText", "copyFrom", "(LKeypadWriter$WrittenText;)V"⟩ ∈ gx_G := gx_c2 _ (List.mem_of_getElem? (i := 63) rfl) rfl
theorem gw_304 : Cond.instanceMethod ⟨"KeypadWriter$WrittenText", "copyFrom", "(LKeypadWriter$WrittenText;)V"⟩ ∈ gx_G := gx_c2 _ (List.mem_of_getElem? (i := 64) rfl) rfl
theorem gw_305 : Cond.selects "KeypadWriter$WrittenText" ⟨"KeypadWriter$WrittenText", "copyFrom", "(LKeypadWriter$WrittenText;)V"⟩ ⟨"KeypadWriter$WrittenText", "copyFrom", "(LKeypadWriter$WrittenText;)V"⟩ ∈ gx_G := gx_c2 _ (List.mem_of_getElem? (i := 65) rfl) rfl
theorem gw_306 : Cond.code ⟨"KeypadWriter$WrittenText", "copyFrom", "(LKeypadWriter$WrittenText;)V"⟩ prog_9_method_2_code 2 none ∈ gx_G := gx_c2 _ (List.mem_of_getElem? (i := 66) rfl) rfl
theorem gw_307 : Cond.methodLink "KeypadWriter$WrittenText" 15 ⟨"java/lang/System", "arraycopy", "(Ljava/lang/Object;ILjava/lang/Object;II)V"⟩ ∈ gx_G := gx_c2 _ (List.mem_of_getElem? (i := 67) rfl) rfl
theorem gw_308 : Cond.methodLink "KeypadWriter" 82 ⟨"KeypadWriter$WordList", "copyFrom", "(LKeypadWriter$WordList;)V"⟩ ∈ gx_G := gx_c2 _ (List.mem_of_getElem? (i := 68) rfl) rfl
theorem gw_309 : Cond.methodLink "KeypadWriterLaw" 109 ⟨"KeypadWriter", "pause", "()I"⟩ ∈ gx_G := gx_c2 _ (List.mem_of_getElem? (i := 69) rfl) rfl
theorem gw_310 : Cond.instanceMethod ⟨"KeypadWriter", "pause", "()I"⟩ ∈ gx_G := gx_c2 _ (List.mem_of_getElem? (i := 70) rfl) rfl
theorem gw_311 : Cond.selects "KeypadWriter" ⟨"KeypadWriter", "pause", "()I"⟩ ⟨"KeypadWriter", "pause", "()I"⟩ ∈ gx_G := gx_c2 _ (List.mem_of_getElem? (i := 71) rfl) rfl
theorem gw_312 : Cond.code ⟨"KeypadWriter", "pause", "()I"⟩ prog_1_method_9_code 2 (Option.some FieldType.int) ∈ gx_G := gx_c2 _ (List.mem_of_getElem? (i := 72) rfl) rfl
theorem gw_313 : Cond.methodLink "KeypadWriterLaw" 113 ⟨"KeypadWriter", "mode", "(Z)I"⟩ ∈ gx_G := gx_c2 _ (List.mem_of_getElem? (i := 73) rfl) rfl
theorem gw_314 : Cond.instanceMethod ⟨"KeypadWriter", "mode", "(Z)I"⟩ ∈ gx_G := gx_c2 _ (List.mem_of_getElem? (i := 74) rfl) rfl
theorem gw_315 : Cond.selects "KeypadWriter" ⟨"KeypadWriter", "mode", "(Z)I"⟩ ⟨"KeypadWriter", "mode", "(Z)I"⟩ ∈ gx_G := gx_c2 _ (List.mem_of_getElem? (i := 75) rfl) rfl
theorem gw_316 : Cond.code ⟨"KeypadWriter", "mode", "(Z)I"⟩ prog_1_method_10_code 2 (Option.some FieldType.int) ∈ gx_G := gx_c2 _ (List.mem_of_getElem? (i := 76) rfl) rfl
theorem gw_317 : Cond.methodLink "KeypadWriter" 153 ⟨"KeypadWriter", "displayed", "()J"⟩ ∈ gx_G := gx_c2 _ (List.mem_of_getElem? (i := 77) rfl) rfl
theorem gw_319 : Cond.instanceMethod ⟨"KeypadWriter", "displayed", "()J"⟩ ∈ gx_G := gx_c2 _ (List.mem_of_getElem? (i := 79) rfl) rfl
theorem gw_320 : Cond.code ⟨"KeypadWriter", "displayed", "()J"⟩ prog_1_method_32_code 1 (Option.some FieldType.long) ∈ gx_G := gx_c2 _ (List.mem_of_getElem? (i := 80) rfl) rfl
theorem gw_321 : Cond.methodLink "KeypadWriter" 168 ⟨"KeypadWriter$Candidates", "find", "(LKeypadWriter$State;)V"⟩ ∈ gx_G := gx_c2 _ (List.mem_of_getElem? (i := 81) rfl) rfl
theorem gw_322 : Cond.instanceMethod ⟨"KeypadWriter$Candidates", "find", "(LKeypadWriter$State;)V"⟩ ∈ gx_G := gx_c2 _ (List.mem_of_getElem? (i := 82) rfl) rfl
theorem gw_323 : Cond.selects "KeypadWriter$Candidates" ⟨"KeypadWriter$Candidates", "find", "(LKeypadWriter$State;)V"⟩ ⟨"KeypadWriter$Candidates", "find", "(LKeypadWriter$State;)V"⟩ ∈ gx_G := gx_c2 _ (List.mem_of_getElem? (i := 83) rfl) rfl
theorem gw_324 : Cond.code ⟨"KeypadWriter$Candidates", "find", "(LKeypadWriter$State;)V"⟩ prog_2_method_2_code 6 none ∈ gx_G := gx_c2 _ (List.mem_of_getElem? (i := 84) rfl) rfl
theorem gw_325 : Cond.methodLink "KeypadWriter$Candidates" 19 ⟨"KeypadWriter$State", "places", "()I"⟩ ∈ gx_G := gx_c2 _ (List.mem_of_getElem? (i := 85) rfl) rfl
theorem gw_326 : Cond.instanceMethod ⟨"KeypadWriter$State", "places", "()I"⟩ ∈ gx_G := gx_c2 _ (List.mem_of_getElem? (i := 86) rfl) rfl
theorem gw_327 : Cond.selects "KeypadWriter$State" ⟨"KeypadWriter$State", "places", "()I"⟩ ⟨"KeypadWriter$State", "places", "()I"⟩ ∈ gx_G := gx_c2 _ (List.mem_of_getElem? (i := 87) rfl) rfl
theorem gw_328 : Cond.code ⟨"KeypadWriter$State", "places", "()I"⟩ prog_7_method_3_code 1 (Option.some FieldType.int) ∈ gx_G := gx_c2 _ (List.mem_of_getElem? (i := 88) rfl) rfl
theorem gw_329 : Cond.methodLink "KeypadWriter$State" 61 ⟨"KeypadWriter$Slots", "lengthOf", "(J)I"⟩ ∈ gx_G := gx_c2 _ (List.mem_of_getElem? (i := 89) rfl) rfl
theorem gw_330 : Cond.methodLink "KeypadWriter$Candidates" 32 ⟨"KeypadWriter$WordList", "wordAt", "(I)J"⟩ ∈ gx_G := gx_c2 _ (List.mem_of_getElem? (i := 90) rfl) rfl
theorem gw_331 : Cond.methodLink "KeypadWriter$Candidates" 36 ⟨"KeypadWriter$Slots", "has", "(JI)Z"⟩ ∈ gx_G := gx_c2 _ (List.mem_of_getElem? (i := 91) rfl) rfl
theorem gw_332 : Cond.static ⟨"KeypadWriter$Slots", "has", "(JI)Z"⟩ ∈ gx_G := gx_c2 _ (List.mem_of_getElem? (i := 92) rfl) rfl
theorem gw_333 : Cond.code ⟨"KeypadWriter$Slots", "has", "(JI)Z"⟩ prog_6_method_9_code 3 (Option.some FieldType.boolean) ∈ gx_G := gx_c2 _ (List.mem_of_getElem? (i := 93) rfl) rfl
theorem gw_334 : Cond.methodLink "KeypadWriter$Candidates" 50 ⟨"KeypadWriter$WordList", "beginsWith", "(IJ)Z"⟩ ∈ gx_G := gx_c2 _ (List.mem_of_getElem? (i := 94) rfl) rfl
theorem gw_335 : Cond.instanceMethod ⟨"KeypadWriter$WordList", "beginsWith", "(IJ)Z"⟩ ∈ gx_G := gx_c2 _ (List.mem_of_getElem? (i := 95) rfl) rfl
theorem gw_336 : Cond.selects "KeypadWriter$WordList" ⟨"KeypadWriter$WordList", "beginsWith", "(IJ)Z"⟩ ⟨"KeypadWriter$WordList", "beginsWith", "(IJ)Z"⟩ ∈ gx_G := gx_c2 _ (List.mem_of_getElem? (i := 96) rfl) rfl
theorem gw_337 : Cond.code ⟨"KeypadWriter$WordList", "beginsWith", "(IJ)Z"⟩ prog_8_method_15_code 10 (Option.some FieldType.boolean) ∈ gx_G := gx_c2 _ (List.mem_of_getElem? (i := 97) rfl) rfl
theorem gw_338 : Cond.methodLink "KeypadWriter$WordList" 70 ⟨"KeypadWriter$WordList", "keysAt", "(I)J"⟩ ∈ gx_G := gx_c2 _ (List.mem_of_getElem? (i := 98) rfl) rfl
theorem gw_339 : Cond.instanceMethod ⟨"KeypadWriter$WordList", "keysAt", "(I)J"⟩ ∈ gx_G := gx_c2 _ (List.mem_of_getElem? (i := 99) rfl) rfl
theorem gw_340 : Cond.selects "KeypadWriter$WordList" ⟨"KeypadWriter$WordList", "keysAt", "(I)J"⟩ ⟨"KeypadWriter$WordList", "keysAt", "(I)J"⟩ ∈ gx_G := gx_c2 _ (List.mem_of_getElem? (i := 100) rfl) rfl
theorem gw_341 : Cond.code ⟨"KeypadWriter$WordList", "keysAt", "(I)J"⟩ prog_8_method_7_code 2 (Option.some FieldType.long) ∈ gx_G := gx_c2 _ (List.mem_of_getElem? (i := 101) rfl) rfl
theorem gw_342 : Cond.methodLink "KeypadWriter$WordList" 73 ⟨"KeypadWriter$Slots", "codeAt", "(JI)I"⟩ ∈ gx_G := gx_c2 _ (List.mem_of_getElem? (i := 102) rfl) rfl
theorem gw_343 : Cond.methodLink "KeypadWriter$Candidates" 54 ⟨"KeypadWriter$Candidates", "insert", "(LKeypadWriter$WordList;II)V"⟩ ∈ gx_G := gx_c2 _ (List.mem_of_getElem? (i := 103) rfl) rfl
theorem gw_345 : Cond.instanceMethod ⟨"KeypadWriter$Candidates", "insert", "(LKeypadWriter$WordList;II)V"⟩ ∈ gx_G := gx_c2 _ (List.mem_of_getElem? (i := 105) rfl) rfl
theorem gw_346 : Cond.code ⟨"KeypadWriter$Candidates", "insert", "(LKeypadWriter$WordList;II)V"⟩ prog_2_method_4_code 5 none ∈ gx_G := gx_c2 _ (List.mem_of_getElem? (i := 106) rfl) rfl
theorem gw_347 : Cond.methodLink "KeypadWriter$Candidates" 58 ⟨"KeypadWriter$Candidates", "comesBefore", "(LKeypadWriter$WordList;III)Z"⟩ ∈ gx_G := gx_c2 _ (List.mem_of_getElem? (i := 107) rfl) rfl
theorem gw_348 : Cond.static ⟨"KeypadWriter$Candidates", "comesBefore", "(LKeypadWriter$WordList;III)Z"⟩ ∈ gx_G := gx_c2 _ (List.mem_of_getElem? (i := 108) rfl) rfl
theorem gw_349 : Cond.code ⟨"KeypadWriter$Candidates", "comesBefore", "(LKeypadWriter$WordList;III)Z"⟩ prog_2_method_6_code 5 (Option.some FieldType.boolean) ∈ gx_G := gx_c2 _ (List.mem_of_getElem? (i := 109) rfl) rfl
theorem gw_350 : Cond.methodLink "KeypadWriter$Candidates" 66 ⟨"KeypadWriter$WordList", "ranksBefore", "(II)Z"⟩ ∈ gx_G := gx_c2 _ (List.mem_of_getElem? (i := 110) rfl) rfl
theorem gw_351 : Cond.instanceMethod ⟨"KeypadWriter$WordList", "ranksBefore", "(II)Z"⟩ ∈ gx_G := gx_c2 _ (List.mem_of_getElem? (i := 111) rfl) rfl
theorem gw_352 : Cond.selects "KeypadWriter$WordList" ⟨"KeypadWriter$WordList", "ranksBefore", "(II)Z"⟩ ⟨"KeypadWriter$WordList", "ranksBefore", "(II)Z"⟩ ∈ gx_G := gx_c2 _ (List.mem_of_getElem? (i := 112) rfl) rfl
theorem gw_353 : Cond.code ⟨"KeypadWriter$WordList", "ranksBefore", "(II)Z"⟩ prog_8_method_13_code 3 (Option.some FieldType.boolean) ∈ gx_G := gx_c2 _ (List.mem_of_getElem? (i := 113) rfl) rfl
theorem gw_354 : Cond.methodLink "KeypadWriter" 218 ⟨"KeypadWriter$Candidates", "wordAt", "(I)I"⟩ ∈ gx_G := gx_c2 _ (List.mem_of_getElem? (i := 114) rfl) rfl
theorem gw_355 : Cond.instanceMethod ⟨"KeypadWriter$Candidates", "wordAt", "(I)I"⟩ ∈ gx_G := gx_c2 _ (List.mem_of_getElem? (i := 115) rfl) rfl
theorem gw_356 : Cond.selects "KeypadWriter$Candidates" ⟨"KeypadWriter$Candidates", "wordAt", "(I)I"⟩ ⟨"KeypadWriter$Candidates", "wordAt", "(I)I"⟩ ∈ gx_G := gx_c2 _ (List.mem_of_getElem? (i := 116) rfl) rfl
theorem gw_357 : Cond.code ⟨"KeypadWriter$Candidates", "wordAt", "(I)I"⟩ prog_2_method_3_code 2 (Option.some FieldType.int) ∈ gx_G := gx_c2 _ (List.mem_of_getElem? (i := 117) rfl) rfl
theorem gw_358 : Cond.methodLink "KeypadWriter" 116 ⟨"KeypadWriter$WordList", "wordAt", "(I)J"⟩ ∈ gx_G := gx_c2 _ (List.mem_of_getElem? (i := 118) rfl) rfl
theorem gw_359 : Cond.methodLink "KeypadWriter" 283 ⟨"KeypadWriter$Slots", "firstLetters", "(J)J"⟩ ∈ gx_G := gx_c2 _ (List.mem_of_getElem? (i := 119) rfl) rfl
theorem gw_360 : Cond.static ⟨"KeypadWriter$Slots", "firstLetters", "(J)J"⟩ ∈ gx_G := gx_c2 _ (List.mem_of_getElem? (i := 120) rfl) rfl
theorem gw_361 : Cond.code ⟨"KeypadWriter$Slots", "firstLetters", "(J)J"⟩ prog_6_method_14_code 8 (Option.some FieldType.long) ∈ gx_G := gx_c2 _ (List.mem_of_getElem? (i := 121) rfl) rfl
theorem gw_362 : Cond.methodLink "KeypadWriter$Slots" 42 ⟨"KeypadWriter$Slots", "isLetter", "(I)Z"⟩ ∈ gx_G := gx_c2 _ (List.mem_of_getElem? (i := 122) rfl) rfl
theorem gw_363 : Cond.static ⟨"KeypadWriter$Slots", "isLetter", "(I)Z"⟩ ∈ gx_G := gx_c2 _ (List.mem_of_getElem? (i := 123) rfl) rfl
theorem gw_364 : Cond.code ⟨"KeypadWriter$Slots", "isLetter", "(I)Z"⟩ prog_6_method_4_code 1 (Option.some FieldType.boolean) ∈ gx_G := gx_c2 _ (List.mem_of_getElem? (i := 124) rfl) rfl
theorem gw_365 : Cond.methodLink "KeypadWriter$Slots" 46 ⟨"KeypadWriter$Slots", "keyOf", "(I)I"⟩ ∈ gx_G := gx_c2 _ (List.mem_of_getElem? (i := 125) rfl) rfl
theorem gw_366 : Cond.static ⟨"KeypadWriter$Slots", "keyOf", "(I)I"⟩ ∈ gx_G := gx_c2 _ (List.mem_of_getElem? (i := 126) rfl) rfl
theorem gw_367 : Cond.code ⟨"KeypadWriter$Slots", "keyOf", "(I)I"⟩ prog_6_method_6_code 1 (Option.some FieldType.int) ∈ gx_G := gx_c2 _ (List.mem_of_getElem? (i := 127) rfl) rfl
theorem gw_368 : Cond.methodLink "KeypadWriter$Slots" 49 ⟨"KeypadWriter$Keys", "firstLetter", "(I)I"⟩ ∈ gx_G := gx_c2 _ (List.mem_of_getElem? (i := 128) rfl) rfl
theorem gw_369 : Cond.static ⟨"KeypadWriter$Keys", "firstLetter", "(I)I"⟩ ∈ gx_G := gx_c2 _ (List.mem_of_getElem? (i := 129) rfl) rfl
theorem gw_370 : Cond.code ⟨"KeypadWriter$Keys", "firstLetter", "(I)I"⟩ prog_3_method_4_code 1 (Option.some FieldType.int) ∈ gx_G := gx_c2 _ (List.mem_of_getElem? (i := 130) rfl) rfl
theorem gw_371 : Cond.methodLink "KeypadWriter$Keys" 15 ⟨"KeypadWriter$Keys", "isKey", "(I)Z"⟩ ∈ gx_G := gx_c2 _ (List.mem_of_getElem? (i := 131) rfl) rfl
theorem gw_372 : Cond.static ⟨"KeypadWriter$Keys", "isKey", "(I)Z"⟩ ∈ gx_G := gx_c2 _ (List.mem_of_getElem? (i := 132) rfl) rfl
theorem gw_373 : Cond.code ⟨"KeypadWriter$Keys", "isKey", "(I)Z"⟩ prog_3_method_2_code 1 (Option.some FieldType.boolean) ∈ gx_G := gx_c2 _ (List.mem_of_getElem? (i := 133) rfl) rfl
theorem gw_374 : Cond.fieldLink "KeypadWriter$Keys" 19 "KeypadWriter$Keys" "FIRST_LETTER_FROM_KEY_2" "[I" ∈ gx_G := gx_c2 _ (List.mem_of_getElem? (i := 134) rfl) rfl
theorem gw_376 : Cond.methodLink "KeypadWriter$Slots" 52 ⟨"KeypadWriter$Slots", "codeOfLetter", "(I)I"⟩ ∈ gx_G := gx_c2 _ (List.mem_of_getElem? (i := 136) rfl) rfl
theorem gw_377 : Cond.methodLink "KeypadWriter" 141 ⟨"KeypadWriter$State", "places", "()I"⟩ ∈ gx_G := gx_c2 _ (List.mem_of_getElem? (i := 137) rfl) rfl
theorem gw_378 : Cond.methodLink "KeypadWriter" 157 ⟨"KeypadWriter$Slots", "firstOf", "(JI)J"⟩ ∈ gx_G := gx_c2 _ (List.mem_of_getElem? (i := 138) rfl) rfl
theorem gw_379 : Cond.static ⟨"KeypadWriter$Slots", "firstOf", "(JI)J"⟩ ∈ gx_G := gx_c2 _ (List.mem_of_getElem? (i := 139) rfl) rfl
theorem gw_380 : Cond.code ⟨"KeypadWriter$Slots", "firstOf", "(JI)J"⟩ prog_6_method_12_code 6 (Option.some FieldType.long) ∈ gx_G := gx_c2 _ (List.mem_of_getElem? (i := 140) rfl) rfl
theorem gw_381 : Cond.methodLink "KeypadWriterLaw" 153 ⟨"KeypadWriter", "clashing", "()I"⟩ ∈ gx_G := gx_c2 _ (List.mem_of_getElem? (i := 141) rfl) rfl
theorem gw_382 : Cond.instanceMethod ⟨"KeypadWriter", "clashing", "()I"⟩ ∈ gx_G := gx_c2 _ (List.mem_of_getElem? (i := 142) rfl) rfl
theorem gw_383 : Cond.selects "KeypadWriter" ⟨"KeypadWriter", "clashing", "()I"⟩ ⟨"KeypadWriter", "clashing", "()I"⟩ ∈ gx_G := gx_c2 _ (List.mem_of_getElem? (i := 143) rfl) rfl
theorem gw_384 : Cond.code ⟨"KeypadWriter", "clashing", "()I"⟩ prog_1_method_22_code 1 (Option.some FieldType.int) ∈ gx_G := gx_c2 _ (List.mem_of_getElem? (i := 144) rfl) rfl
theorem gw_385 : Cond.methodLink "KeypadWriter" 234 ⟨"KeypadWriter$WordList", "clashes", "()I"⟩ ∈ gx_G := gx_c2 _ (List.mem_of_getElem? (i := 145) rfl) rfl
theorem gw_386 : Cond.instanceMethod ⟨"KeypadWriter$WordList", "clashes", "()I"⟩ ∈ gx_G := gx_c2 _ (List.mem_of_getElem? (i := 146) rfl) rfl
theorem gw_387 : Cond.selects "KeypadWriter$WordList" ⟨"KeypadWriter$WordList", "clashes", "()I"⟩ ⟨"KeypadWriter$WordList", "clashes", "()I"⟩ ∈ gx_G := gx_c2 _ (List.mem_of_getElem? (i := 147) rfl) rfl
theorem gw_388 : Cond.code ⟨"KeypadWriter$WordList", "clashes", "()I"⟩ prog_8_method_24_code 3 (Option.some FieldType.int) ∈ gx_G := gx_c2 _ (List.mem_of_getElem? (i := 148) rfl) rfl
theorem gw_389 : Cond.methodLink "KeypadWriter$WordList" 117 ⟨"KeypadWriter$WordList", "sharesKeys", "(I)Z"⟩ ∈ gx_G := gx_c2 _ (List.mem_of_getElem? (i := 149) rfl) rfl
theorem gw_391 : Cond.instanceMethod ⟨"KeypadWriter$WordList", "sharesKeys", "(I)Z"⟩ ∈ gx_G := gx_c2 _ (List.mem_of_getElem? (i := 151) rfl) rfl
theorem gw_392 : Cond.code ⟨"KeypadWriter$WordList", "sharesKeys", "(I)Z"⟩ prog_8_method_25_code 3 (Option.some FieldType.boolean) ∈ gx_G := gx_c2 _ (List.mem_of_getElem? (i := 152) rfl) rfl
theorem gw_393 : Cond.methodLink "KeypadWriterLaw" 157 ⟨"KeypadWriter", "saving", "()D"⟩ ∈ gx_G := gx_c2 _ (List.mem_of_getElem? (i := 153) rfl) rfl
theorem gw_394 : Cond.instanceMethod ⟨"KeypadWriter", "saving", "()D"⟩ ∈ gx_G := gx_c2 _ (List.mem_of_getElem? (i := 154) rfl) rfl
theorem gw_395 : Cond.selects "KeypadWriter" ⟨"KeypadWriter", "saving", "()D"⟩ ⟨"KeypadWriter", "saving", "()D"⟩ ∈ gx_G := gx_c2 _ (List.mem_of_getElem? (i := 155) rfl) rfl
theorem gw_396 : Cond.code ⟨"KeypadWriter", "saving", "()D"⟩ prog_1_method_23_code 1 (Option.some FieldType.double) ∈ gx_G := gx_c2 _ (List.mem_of_getElem? (i := 156) rfl) rfl
theorem gw_397 : Cond.methodLink "KeypadWriter" 237 ⟨"KeypadWriter$WordList", "savingOfAll", "()D"⟩ ∈ gx_G := gx_c2 _ (List.mem_of_getElem? (i := 157) rfl) rfl
theorem gw_398 : Cond.instanceMethod ⟨"KeypadWriter$WordList", "savingOfAll", "()D"⟩ ∈ gx_G := gx_c2 _ (List.mem_of_getElem? (i := 158) rfl) rfl
theorem gw_399 : Cond.selects "KeypadWriter$WordList" ⟨"KeypadWriter$WordList", "savingOfAll", "()D"⟩ ⟨"KeypadWriter$WordList", "savingOfAll", "()D"⟩ ∈ gx_G := gx_c2 _ (List.mem_of_getElem? (i := 159) rfl) rfl
theorem gw_400 : Cond.code ⟨"KeypadWriter$WordList", "savingOfAll", "()D"⟩ prog_8_method_26_code 10 (Option.some FieldType.double) ∈ gx_G := gx_c2 _ (List.mem_of_getElem? (i := 160) rfl) rfl
theorem gw_401 : Cond.methodLink "KeypadWriter$WordList" 53 ⟨"KeypadWriter$WordList", "countAt", "(I)I"⟩ ∈ gx_G := gx_c2 _ (List.mem_of_getElem? (i := 161) rfl) rfl
theorem gw_402 : Cond.instanceMethod ⟨"KeypadWriter$WordList", "countAt", "(I)I"⟩ ∈ gx_G := gx_c2 _ (List.mem_of_getElem? (i := 162) rfl) rfl
theorem gw_403 : Cond.selects "KeypadWriter$WordList" ⟨"KeypadWriter$WordList", "countAt", "(I)I"⟩ ⟨"KeypadWriter$WordList", "countAt", "(I)I"⟩ ∈ gx_G := gx_c2 _ (List.mem_of_getElem? (i := 163) rfl) rfl
theorem gw_404 : Cond.code ⟨"KeypadWriter$WordList", "countAt", "(I)I"⟩ prog_8_method_8_code 2 (Option.some FieldType.int) ∈ gx_G := gx_c2 _ (List.mem_of_getElem? (i := 164) rfl) rfl
theorem gw_405 : Cond.methodLink "KeypadWriter$WordList" 120 ⟨"KeypadWriter$WordList", "tapsFor", "(I)I"⟩ ∈ gx_G := gx_c2 _ (List.mem_of_getElem? (i := 165) rfl) rfl
theorem gw_406 : Cond.instanceMethod ⟨"KeypadWriter$WordList", "tapsFor", "(I)I"⟩ ∈ gx_G := gx_c2 _ (List.mem_of_getElem? (i := 166) rfl) rfl
theorem gw_407 : Cond.selects "KeypadWriter$WordList" ⟨"KeypadWriter$WordList", "tapsFor", "(I)I"⟩ ⟨"KeypadWriter$WordList", "tapsFor", "(I)I"⟩ ∈ gx_G := gx_c2 _ (List.mem_of_getElem? (i := 167) rfl) rfl
theorem gw_408 : Cond.code ⟨"KeypadWriter$WordList", "tapsFor", "(I)I"⟩ prog_8_method_23_code 9 (Option.some FieldType.int) ∈ gx_G := gx_c2 _ (List.mem_of_getElem? (i := 168) rfl) rfl
theorem gw_409 : Cond.methodLink "KeypadWriter$WordList" 49 ⟨"KeypadWriter$Slots", "lengthOf", "(J)I"⟩ ∈ gx_G := gx_c2 _ (List.mem_of_getElem? (i := 169) rfl) rfl
theorem gw_410 : Cond.methodLink "KeypadWriter$WordList" 109 ⟨"KeypadWriter$Slots", "letterAt", "(JI)I"⟩ ∈ gx_G := gx_c2 _ (List.mem_of_getElem? (i := 170) rfl) rfl
theorem gw_411 : Cond.methodLink "KeypadWriter$WordList" 112 ⟨"KeypadWriter$Keys", "tapsOf", "(I)I"⟩ ∈ gx_G := gx_c2 _ (List.mem_of_getElem? (i := 171) rfl) rfl
theorem gw_412 : Cond.static ⟨"KeypadWriter$Keys", "tapsOf", "(I)I"⟩ ∈ gx_G := gx_c2 _ (List.mem_of_getElem? (i := 172) rfl) rfl
theorem gw_413 : Cond.code ⟨"KeypadWriter$Keys", "tapsOf", "(I)I"⟩ prog_3_method_6_code 1 (Option.some FieldType.int) ∈ gx_G := gx_c2 _ (List.mem_of_getElem? (i := 173) rfl) rfl
theorem gw_414 : Cond.methodLink "KeypadWriter$Keys" 22 ⟨"KeypadWriter$Keys", "keyWith", "(I)I"⟩ ∈ gx_G := gx_c2 _ (List.mem_of_getElem? (i := 174) rfl) rfl
theorem gw_415 : Cond.methodLink "KeypadWriter$Keys" 26 ⟨"KeypadWriter$Keys", "firstLetter", "(I)I"⟩ ∈ gx_G := gx_c2 _ (List.mem_of_getElem? (i := 175) rfl) rfl
theorem gw_416 : Cond.methodLink "KeypadWriter$WordList" 123 ⟨"KeypadWriter$WordList", "guessesFor", "(I)I"⟩ ∈ gx_G := gx_c2 _ (List.mem_of_getElem? (i := 176) rfl) rfl
theorem gw_417 : Cond.instanceMethod ⟨"KeypadWriter$WordList", "guessesFor", "(I)I"⟩ ∈ gx_G := gx_c2 _ (List.mem_of_getElem? (i := 177) rfl) rfl
theorem gw_418 : Cond.selects "KeypadWriter$WordList" ⟨"KeypadWriter$WordList", "guessesFor", "(I)I"⟩ ⟨"KeypadWriter$WordList", "guessesFor", "(I)I"⟩ ∈ gx_G := gx_c2 _ (List.mem_of_getElem? (i := 178) rfl) rfl
theorem gw_419 : Cond.code ⟨"KeypadWriter$WordList", "guessesFor", "(I)I"⟩ prog_8_method_22_code 2 (Option.some FieldType.int) ∈ gx_G := gx_c2 _ (List.mem_of_getElem? (i := 179) rfl) rfl
theorem gw_420 : Cond.methodLink "KeypadWriter$WordList" 106 ⟨"KeypadWriter$WordList", "stepsTo", "(I)I"⟩ ∈ gx_G := gx_c2 _ (List.mem_of_getElem? (i := 180) rfl) rfl
theorem gw_421 : Cond.instanceMethod ⟨"KeypadWriter$WordList", "stepsTo", "(I)I"⟩ ∈ gx_G := gx_c2 _ (List.mem_of_getElem? (i := 181) rfl) rfl
theorem gw_422 : Cond.selects "KeypadWriter$WordList" ⟨"KeypadWriter$WordList", "stepsTo", "(I)I"⟩ ⟨"KeypadWriter$WordList", "stepsTo", "(I)I"⟩ ∈ gx_G := gx_c2 _ (List.mem_of_getElem? (i := 182) rfl) rfl
theorem gw_423 : Cond.code ⟨"KeypadWriter$WordList", "stepsTo", "(I)I"⟩ prog_8_method_21_code 4 (Option.some FieldType.int) ∈ gx_G := gx_c2 _ (List.mem_of_getElem? (i := 183) rfl) rfl
theorem gw_424 : Cond.methodLink "KeypadWriter$WordList" 66 ⟨"KeypadWriter$WordList", "ranksBefore", "(II)Z"⟩ ∈ gx_G := gx_c2 _ (List.mem_of_getElem? (i := 184) rfl) rfl
theorem gw_425 : Cond.methodLink "KeypadWriterLaw" 168 ⟨"KeypadWriter", "digest", "()J"⟩ ∈ gx_G := gx_c2 _ (List.mem_of_getElem? (i := 185) rfl) rfl
theorem gw_426 : Cond.instanceMethod ⟨"KeypadWriter", "digest", "()J"⟩ ∈ gx_G := gx_c2 _ (List.mem_of_getElem? (i := 186) rfl) rfl
theorem gw_427 : Cond.selects "KeypadWriter" ⟨"KeypadWriter", "digest", "()J"⟩ ⟨"KeypadWriter", "digest", "()J"⟩ ∈ gx_G := gx_c2 _ (List.mem_of_getElem? (i := 187) rfl) rfl
theorem gw_428 : Cond.code ⟨"KeypadWriter", "digest", "()J"⟩ prog_1_method_26_code 7 (Option.some FieldType.long) ∈ gx_G := gx_c2 _ (List.mem_of_getElem? (i := 188) rfl) rfl
theorem gw_429 : Cond.constantLong "KeypadWriter" 254 (3271 : Int64) ∈ gx_G := gx_c2 _ (List.mem_of_getElem? (i := 189) rfl) rfl
theorem gw_430 : Cond.methodLink "KeypadWriter" 256 ⟨"KeypadWriter", "mixed", "(JI)J"⟩ ∈ gx_G := gx_c2 _ (List.mem_of_getElem? (i := 190) rfl) rfl
theorem gw_431 : Cond.static ⟨"KeypadWriter", "mixed", "(JI)J"⟩ ∈ gx_G := gx_c2 _ (List.mem_of_getElem? (i := 191) rfl) rfl
theorem gw_432 : Cond.code ⟨"KeypadWriter", "mixed", "(JI)J"⟩ prog_1_method_29_code 3 (Option.some FieldType.long) ∈ gx_G := gx_c2 _ (List.mem_of_getElem? (i := 192) rfl) rfl
theorem gw_433 : Cond.constantLong "KeypadWriter" 266 (31 : Int64) ∈ gx_G := gx_c2 _ (List.mem_of_getElem? (i := 193) rfl) rfl
theorem gw_434 : Cond.methodLink "KeypadWriter" 205 ⟨"KeypadWriter", "settingOf", "(I)I"⟩ ∈ gx_G := gx_c2 _ (List.mem_of_getElem? (i := 194) rfl) rfl
theorem gw_436 : Cond.instanceMethod ⟨"KeypadWriter", "settingOf", "(I)I"⟩ ∈ gx_G := gx_c2 _ (List.mem_of_getElem? (i := 196) rfl) rfl
theorem gw_437 : Cond.code ⟨"KeypadWriter", "settingOf", "(I)I"⟩ prog_1_method_30_code 2 (Option.some FieldType.int) ∈ gx_G := gx_c2 _ (List.mem_of_getElem? (i := 197) rfl) rfl
theorem gw_438 : Cond.methodLink "KeypadWriter" 259 ⟨"KeypadWriter", "mixedWord", "(JI)J"⟩ ∈ gx_G := gx_c2 _ (List.mem_of_getElem? (i := 198) rfl) rfl
theorem gw_440 : Cond.instanceMethod ⟨"KeypadWriter", "mixedWord", "(JI)J"⟩ ∈ gx_G := gx_c2 _ (List.mem_of_getElem? (i := 200) rfl) rfl
theorem gw_441 : Cond.code ⟨"KeypadWriter", "mixedWord", "(JI)J"⟩ prog_1_method_27_code 7 (Option.some FieldType.long) ∈ gx_G := gx_c2 _ (List.mem_of_getElem? (i := 201) rfl) rfl
theorem gw_442 : Cond.methodLink "KeypadWriter" 112 ⟨"KeypadWriter$WordList", "valueOf", "(II)I"⟩ ∈ gx_G := gx_c2 _ (List.mem_of_getElem? (i := 202) rfl) rfl
theorem gw_443 : Cond.instanceMethod ⟨"KeypadWriter$WordList", "valueOf", "(II)I"⟩ ∈ gx_G := gx_c2 _ (List.mem_of_getElem? (i := 203) rfl) rfl
theorem gw_444 : Cond.selects "KeypadWriter$WordList" ⟨"KeypadWriter$WordList", "valueOf", "(II)I"⟩ ⟨"KeypadWriter$WordList", "valueOf", "(II)I"⟩ ∈ gx_G := gx_c2 _ (List.mem_of_getElem? (i := 204) rfl) rfl
theorem gw_445 : Cond.code ⟨"KeypadWriter$WordList", "valueOf", "(II)I"⟩ prog_8_method_11_code 3 (Option.some FieldType.int) ∈ gx_G := gx_c2 _ (List.mem_of_getElem? (i := 205) rfl) rfl
theorem gw_446 : Cond.methodLink "KeypadWriter$WordList" 57 ⟨"KeypadWriter$WordList", "timeAt", "(I)I"⟩ ∈ gx_G := gx_c2 _ (List.mem_of_getElem? (i := 206) rfl) rfl
theorem gw_447 : Cond.instanceMethod ⟨"KeypadWriter$WordList", "timeAt", "(I)I"⟩ ∈ gx_G := gx_c2 _ (List.mem_of_getElem? (i := 207) rfl) rfl
theorem gw_448 : Cond.selects "KeypadWriter$WordList" ⟨"KeypadWriter$WordList", "timeAt", "(I)I"⟩ ⟨"KeypadWriter$WordList", "timeAt", "(I)I"⟩ ∈ gx_G := gx_c2 _ (List.mem_of_getElem? (i := 208) rfl) rfl
theorem gw_449 : Cond.code ⟨"KeypadWriter$WordList", "timeAt", "(I)I"⟩ prog_8_method_9_code 2 (Option.some FieldType.int) ∈ gx_G := gx_c2 _ (List.mem_of_getElem? (i := 209) rfl) rfl
theorem gw_450 : Cond.methodLink "KeypadWriter$WordList" 60 ⟨"KeypadWriter$WordList", "isAdded", "(I)Z"⟩ ∈ gx_G := gx_c2 _ (List.mem_of_getElem? (i := 210) rfl) rfl
theorem gw_451 : Cond.instanceMethod ⟨"KeypadWriter$WordList", "isAdded", "(I)Z"⟩ ∈ gx_G := gx_c2 _ (List.mem_of_getElem? (i := 211) rfl) rfl
theorem gw_452 : Cond.selects "KeypadWriter$WordList" ⟨"KeypadWriter$WordList", "isAdded", "(I)Z"⟩ ⟨"KeypadWriter$WordList", "isAdded", "(I)Z"⟩ ∈ gx_G := gx_c2 _ (List.mem_of_getElem? (i := 212) rfl) rfl
theorem gw_453 : Cond.code ⟨"KeypadWriter$WordList", "isAdded", "(I)Z"⟩ prog_8_method_10_code 2 (Option.some FieldType.boolean) ∈ gx_G := gx_c2 _ (List.mem_of_getElem? (i := 213) rfl) rfl
theorem gw_454 : Cond.methodLink "KeypadWriter$WordList" 63 ⟨"KeypadWriter$WordList", "rankOf", "(I)I"⟩ ∈ gx_G := gx_c2 _ (List.mem_of_getElem? (i := 214) rfl) rfl
theorem gw_455 : Cond.instanceMethod ⟨"KeypadWriter$WordList", "rankOf", "(I)I"⟩ ∈ gx_G := gx_c2 _ (List.mem_of_getElem? (i := 215) rfl) rfl
theorem gw_456 : Cond.selects "KeypadWriter$WordList" ⟨"KeypadWriter$WordList", "rankOf", "(I)I"⟩ ⟨"KeypadWriter$WordList", "rankOf", "(I)I"⟩ ∈ gx_G := gx_c2 _ (List.mem_of_getElem? (i := 216) rfl) rfl
theorem gw_457 : Cond.code ⟨"KeypadWriter$WordList", "rankOf", "(I)I"⟩ prog_8_method_14_code 4 (Option.some FieldType.int) ∈ gx_G := gx_c2 _ (List.mem_of_getElem? (i := 217) rfl) rfl
theorem gw_458 : Cond.methodLink "KeypadWriter" 262 ⟨"KeypadWriter", "mixedLetters", "(JJ)J"⟩ ∈ gx_G := gx_c2 _ (List.mem_of_getElem? (i := 218) rfl) rfl
theorem gw_459 : Cond.static ⟨"KeypadWriter", "mixedLetters", "(JJ)J"⟩ ∈ gx_G := gx_c2 _ (List.mem_of_getElem? (i := 219) rfl) rfl
theorem gw_460 : Cond.code ⟨"KeypadWriter", "mixedLetters", "(JJ)J"⟩ prog_1_method_28_code 8 (Option.some FieldType.long) ∈ gx_G := gx_c2 _ (List.mem_of_getElem? (i := 220) rfl) rfl
theorem gw_461 : Cond.methodLink "KeypadWriter" 221 ⟨"KeypadWriter$Slots", "lengthOf", "(J)I"⟩ ∈ gx_G := gx_c2 _ (List.mem_of_getElem? (i := 221) rfl) rfl
theorem gw_462 : Cond.methodLink "KeypadWriter" 127 ⟨"KeypadWriter$Slots", "letterAt", "(JI)I"⟩ ∈ gx_G := gx_c2 _ (List.mem_of_getElem? (i := 222) rfl) rfl
theorem gw_463 : Cond.methodLink "KeypadWriter" 225 ⟨"KeypadWriter$WordList", "stepsTo", "(I)I"⟩ ∈ gx_G := gx_c2 _ (List.mem_of_getElem? (i := 223) rfl) rfl
theorem gw_464 : Cond.methodLink "KeypadWriter" 211 ⟨"KeypadWriter", "placeValue", "(I)I"⟩ ∈ gx_G := gx_c2 _ (List.mem_of_getElem? (i := 224) rfl) rfl
theorem gw_466 : Cond.instanceMethod ⟨"KeypadWriter", "placeValue", "(I)I"⟩ ∈ gx_G := gx_c2 _ (List.mem_of_getElem? (i := 226) rfl) rfl
theorem gw_467 : Cond.code ⟨"KeypadWriter", "placeValue", "(I)I"⟩ prog_1_method_31_code 3 (Option.some FieldType.int) ∈ gx_G := gx_c2 _ (List.mem_of_getElem? (i := 227) rfl) rfl
theorem gw_468 : Cond.methodLink "KeypadWriter" 271 ⟨"KeypadWriter$Slots", "codeAt", "(JI)I"⟩ ∈ gx_G := gx_c2 _ (List.mem_of_getElem? (i := 228) rfl) rfl
theorem gw_469 : Cond.methodLink "KeypadWriter" 274 ⟨"KeypadWriter$Slots", "isLetter", "(I)Z"⟩ ∈ gx_G := gx_c2 _ (List.mem_of_getElem? (i := 229) rfl) rfl
theorem gw_470 : Cond.methodLink "KeypadWriter" 277 ⟨"KeypadWriter$Slots", "letterOf", "(I)I"⟩ ∈ gx_G := gx_c2 _ (List.mem_of_getElem? (i := 230) rfl) rfl
theorem gw_471 : Cond.methodLink "KeypadWriter" 280 ⟨"KeypadWriter$Slots", "keyOf", "(I)I"⟩ ∈ gx_G := gx_c2 _ (List.mem_of_getElem? (i := 231) rfl) rfl
theorem gw_472 : Cond.methodLink "KeypadWriter" 220 ⟨"KeypadWriter$WrittenText", "wordAt", "(I)J"⟩ ∈ gx_G := gx_c2 _ (List.mem_of_getElem? (i := 232) rfl) rfl
theorem gw_473 : Cond.instanceMethod ⟨"KeypadWriter$WrittenText", "wordAt", "(I)J"⟩ ∈ gx_G := gx_c2 _ (List.mem_of_getElem? (i := 233) rfl) rfl
theorem gw_474 : Cond.selects "KeypadWriter$WrittenText" ⟨"KeypadWriter$WrittenText", "wordAt", "(I)J"⟩ ⟨"KeypadWriter$WrittenText", "wordAt", "(I)J"⟩ ∈ gx_G := gx_c2 _ (List.mem_of_getElem? (i := 234) rfl) rfl
theorem gw_475 : Cond.code ⟨"KeypadWriter$WrittenText", "wordAt", "(I)J"⟩ prog_9_method_4_code 2 (Option.some FieldType.long) ∈ gx_G := gx_c2 _ (List.mem_of_getElem? (i := 235) rfl) rfl
theorem gw_476 : Cond.methodLink "KeypadWriter$WrittenText" 25 ⟨"KeypadWriter$WrittenText", "has", "(I)Z"⟩ ∈ gx_G := gx_c2 _ (List.mem_of_getElem? (i := 236) rfl) rfl
theorem gw_477 : Cond.instanceMethod ⟨"KeypadWriter$WrittenText", "has", "(I)Z"⟩ ∈ gx_G := gx_c2 _ (List.mem_of_getElem? (i := 237) rfl) rfl
theorem gw_478 : Cond.selects "KeypadWriter$WrittenText" ⟨"KeypadWriter$WrittenText", "has", "(I)Z"⟩ ⟨"KeypadWriter$WrittenText", "has", "(I)Z"⟩ ∈ gx_G := gx_c2 _ (List.mem_of_getElem? (i := 238) rfl) rfl
theorem gw_479 : Cond.code ⟨"KeypadWriter$WrittenText", "has", "(I)Z"⟩ prog_9_method_3_code 2 (Option.some FieldType.boolean) ∈ gx_G := gx_c2 _ (List.mem_of_getElem? (i := 239) rfl) rfl
theorem gw_480 : Cond.methodLink "KeypadWriterLaw" 78 ⟨"KeypadWriterLaw", "append", "(LKeypadWriter;I[J)I"⟩ ∈ gx_G := gx_c3 _ (List.mem_of_getElem? (i := 0) rfl) rfl
theorem gw_481 : Cond.static ⟨"KeypadWriterLaw", "append", "(LKeypadWriter;I[J)I"⟩ ∈ gx_G := gx_c3 _ (List.mem_of_getElem? (i := 1) rfl) rfl
theorem gw_482 : Cond.codeWith ⟨"KeypadWriterLaw", "append", "(LKeypadWriter;I[J)I"⟩ method_3_code 4 (Option.some FieldType.int) [(0, 9, 12, 13), (0, 9, 15, 15)] ∈ gx_G := gx_c3 _ (List.mem_of_getElem? (i := 2) rfl) rfl
theorem gw_483 : Cond.classLink "KeypadWriterLaw" 13 "java/lang/IllegalArgumentException" ∈ gx_G := gx_c3 _ (List.mem_of_getElem? (i := 3) rfl) rfl
theorem gw_484 : Cond.classLink "KeypadWriterLaw" 15 "java/lang/IllegalStateException" ∈ gx_G := gx_c3 _ (List.mem_of_getElem? (i := 4) rfl) rfl
theorem gw_485 : Cond.methodLink "KeypadWriterLaw" 7 ⟨"KeypadWriter", "append", "(I)I"⟩ ∈ gx_G := gx_c3 _ (List.mem_of_getElem? (i := 5) rfl) rfl
theorem gw_486 : Cond.instanceMethod ⟨"KeypadWriter", "append", "(I)I"⟩ ∈ gx_G := gx_c3 _ (List.mem_of_getElem? (i := 6) rfl) rfl
theorem gw_487 : Cond.selects "KeypadWriter" ⟨"KeypadWriter", "append", "(I)I"⟩ ⟨"KeypadWriter", "append", "(I)I"⟩ ∈ gx_G := gx_c3 _ (List.mem_of_getElem? (i := 7) rfl) rfl
theorem gw_488 : Cond.code ⟨"KeypadWriter", "append", "(I)I"⟩ prog_1_method_2_code 2 (Option.some FieldType.int) ∈ gx_G := gx_c3 _ (List.mem_of_getElem? (i := 8) rfl) rfl
theorem gw_489 : Cond.classLink "KeypadWriter" 44 "java/lang/IllegalArgumentException" ∈ gx_G := gx_c3 _ (List.mem_of_getElem? (i := 9) rfl) rfl
theorem gw_490 : Cond.instantiable "java/lang/IllegalArgumentException" 6 ∈ gx_G := gx_c3 _ (List.mem_of_getElem? (i := 10) rfl) rfl
theorem gw_498 : Cond.selects "java/lang/IllegalArgumentException" ⟨"java/lang/Throwable", "fillInStackTrace", "(I)Ljava/lang/Throwable;"⟩ ⟨"java/lang/Throwable", "fillInStackTrace", "(I)Ljava/lang/Throwable;"⟩ ∈ gx_G := gx_c3 _ (List.mem_of_getElem? (i := 18) rfl) rfl
theorem gw_499 : Cond.selects "java/lang/IllegalArgumentException" ⟨"java/lang/Throwable", "fillInStackTrace", "()Ljava/lang/Throwable;"⟩ ⟨"java/lang/Throwable", "fillInStackTrace", "()Ljava/lang/Throwable;"⟩ ∈ gx_G := gx_c3 _ (List.mem_of_getElem? (i := 19) rfl) rfl
theorem gw_500 : Cond.lays "java/lang/IllegalArgumentException" "java/lang/Throwable" "cause" "Ljava/lang/Throwable;" ∈ gx_G := gx_c3 _ (List.mem_of_getElem? (i := 20) rfl) rfl
theorem gw_501 : Cond.lays "java/lang/Throwable" "java/lang/Throwable" "cause" "Ljava/lang/Throwable;" ∈ gx_G := gx_c3 _ (List.mem_of_getElem? (i := 21) rfl) rfl
theorem gw_502 : Cond.lays "java/lang/IllegalArgumentException" "java/lang/Throwable" "stackTrace" "[Ljava/lang/StackTraceElement;" ∈ gx_G := gx_c3 _ (List.mem_of_getElem? (i := 22) rfl) rfl
theorem gw_503 : Cond.lays "java/lang/Throwable" "java/lang/Throwable" "stackTrace" "[Ljava/lang/StackTraceElement;" ∈ gx_G := gx_c3 _ (List.mem_of_getElem? (i := 23) rfl) rfl
theorem gw_504 : Cond.lays "java/lang/IllegalArgumentException" "java/lang/Throwable" "suppressedExceptions" "Ljava/util/List;" ∈ gx_G := gx_c3 _ (List.mem_of_getElem? (i := 24) rfl) rfl
theorem gw_505 : Cond.lays "java/lang/Throwable" "java/lang/Throwable" "suppressedExceptions" "Ljava/util/List;" ∈ gx_G := gx_c3 _ (List.mem_of_getElem? (i := 25) rfl) rfl
theorem gw_506 : Cond.lays "java/lang/IllegalArgumentException" "java/lang/Throwable" "detailMessage" "Ljava/lang/String;" ∈ gx_G := gx_c3 _ (List.mem_of_getElem? (i := 26) rfl) rfl
theorem gw_507 : Cond.lays "java/lang/Throwable" "java/lang/Throwable" "detailMessage" "Ljava/lang/String;" ∈ gx_G := gx_c3 _ (List.mem_of_getElem? (i := 27) rfl) rfl
theorem gw_508 : Cond.lays "java/lang/IllegalArgumentException" "java/lang/Throwable" "backtrace" "Ljava/lang/Object;" ∈ gx_G := gx_c3 _ (List.mem_of_getElem? (i := 28) rfl) rfl
theorem gw_509 : Cond.lays "java/lang/Throwable" "java/lang/Throwable" "backtrace" "Ljava/lang/Object;" ∈ gx_G := gx_c3 _ (List.mem_of_getElem? (i := 29) rfl) rfl
theorem gw_510 : Cond.fieldLink "java/lang/Throwable" 198 "java/lang/Throwable" "backtrace" "Ljava/lang/Object;" ∈ gx_G := gx_c3 _ (List.mem_of_getElem? (i := 30) rfl) rfl
theorem gw_511 : Cond.superclass "java/lang/Throwable" "java/lang/Object" ∈ gx_G := gx_c3 _ (List.mem_of_getElem? (i := 31) rfl) rfl
theorem gw_512 : Cond.instanceMethod ⟨"java/lang/Throwable", "<init>", "()V"⟩ ∈ gx_G := gx_c3 _ (List.mem_of_getElem? (i := 32) rfl) rfl
theorem gw_513 : Cond.code ⟨"java/lang/Throwable", "<init>", "()V"⟩ prog_20_method_1_code 1 none ∈ gx_G := gx_c3 _ (List.mem_of_getElem? (i := 33) rfl) rfl
theorem gw_514 : Cond.methodLink "java/lang/Throwable" 1 ⟨"java/lang/Object", "<init>", "()V"⟩ ∈ gx_G := gx_c3 _ (List.mem_of_getElem? (i := 34) rfl) rfl
theorem gw_515 : Cond.fieldLink "java/lang/Throwable" 13 "java/lang/Throwable" "UNASSIGNED_STACK" "[Ljava/lang/StackTraceElement;" ∈ gx_G := gx_c3 _ (List.mem_of_getElem? (i := 35) rfl) rfl
theorem gw_517 : Cond.fieldLink "java/lang/Throwable" 20 "java/lang/Throwable" "SUPPRESSED_SENTINEL" "Ljava/util/List;" ∈ gx_G := gx_c3 _ (List.mem_of_getElem? (i := 37) rfl) rfl
theorem gw_519 : Cond.methodLink "java/lang/Throwable" 27 ⟨"java/lang/Throwable", "fillInStackTrace", "()Ljava/lang/Throwable;"⟩ ∈ gx_G := gx_c3 _ (List.mem_of_getElem? (i := 39) rfl) rfl
theorem gw_520 : Cond.instanceMethod ⟨"java/lang/Throwable", "fillInStackTrace", "()Ljava/lang/Throwable;"⟩ ∈ gx_G := gx_c3 _ (List.mem_of_getElem? (i := 40) rfl) rfl
theorem gw_522 : Cond.selects "java/lang/IllegalStateException" ⟨"java/lang/Throwable", "fillInStackTrace", "()Ljava/lang/Throwable;"⟩ ⟨"java/lang/Throwable", "fillInStackTrace", "()Ljava/lang/Throwable;"⟩ ∈ gx_G := gx_c3 _ (List.mem_of_getElem? (i := 42) rfl) rfl
theorem gw_523 : Cond.selects "java/lang/IndexOutOfBoundsException" ⟨"java/lang/Throwable", "fillInStackTrace", "()Ljava/lang/Throwable;"⟩ ⟨"java/lang/Throwable", "fillInStackTrace", "()Ljava/lang/Throwable;"⟩ ∈ gx_G := gx_c3 _ (List.mem_of_getElem? (i := 43) rfl) rfl
theorem gw_525 : Cond.methodLink "java/lang/Throwable" 202 ⟨"java/lang/Throwable", "fillInStackTrace", "(I)Ljava/lang/Throwable;"⟩ ∈ gx_G := gx_c3 _ (List.mem_of_getElem? (i := 45) rfl) rfl
theorem gw_527 : Cond.instanceMethod ⟨"java/lang/Throwable", "fillInStackTrace", "(I)Ljava/lang/Throwable;"⟩ ∈ gx_G := gx_c3 _ (List.mem_of_getElem? (i := 47) rfl) rfl
theorem gw_528 : Cond.instantiable "java/lang/Throwable" 6 ∈ gx_G := gx_c3 _ (List.mem_of_getElem? (i := 48) rfl) rfl
theorem gw_529 : Cond.native ⟨"java/lang/Throwable", "fillInStackTrace", "(I)Ljava/lang/Throwable;"⟩ ∈ gx_G := gx_c3 _ (List.mem_of_getElem? (i := 49) rfl) rfl
theorem gw_531 : Cond.methodLink "KeypadWriter" 48 ⟨"java/lang/IllegalArgumentException", "<init>", "(Ljava/lang/String;)V"⟩ ∈ gx_G := gx_c3 _ (List.mem_of_getElem? (i := 51) rfl) rfl
theorem gw_532 : Cond.instanceMethod ⟨"java/lang/IllegalArgumentException", "<init>", "(Ljava/lang/String;)V"⟩ ∈ gx_G := gx_c3 _ (List.mem_of_getElem? (i := 52) rfl) rfl
theorem gw_533 : Cond.code ⟨"java/lang/IllegalArgumentException", "<init>", "(Ljava/lang/String;)V"⟩ prog_13_method_2_code 2 none ∈ gx_G := gx_c3 _ (List.mem_of_getElem? (i := 53) rfl) rfl
theorem gw_534 : Cond.methodLink "java/lang/IllegalArgumentException" 7 ⟨"java/lang/RuntimeException", "<init>", "(Ljava/lang/String;)V"⟩ ∈ gx_G := gx_c3 _ (List.mem_of_getElem? (i := 54) rfl) rfl
theorem gw_535 : Cond.instanceMethod ⟨"java/lang/RuntimeException", "<init>", "(Ljava/lang/String;)V"⟩ ∈ gx_G := gx_c3 _ (List.mem_of_getElem? (i := 55) rfl) rfl
theorem gw_536 : Cond.code ⟨"java/lang/RuntimeException", "<init>", "(Ljava/lang/String;)V"⟩ prog_17_method_2_code 2 none ∈ gx_G := gx_c3 _ (List.mem_of_getElem? (i := 56) rfl) rfl
theorem gw_537 : Cond.methodLink "java/lang/RuntimeException" 7 ⟨"java/lang/Exception", "<init>", "(Ljava/lang/String;)V"⟩ ∈ gx_G := gx_c3 _ (List.mem_of_getElem? (i := 57) rfl) rfl
theorem gw_538 : Cond.instanceMethod ⟨"java/lang/Exception", "<init>", "(Ljava/lang/String;)V"⟩ ∈ gx_G := gx_c3 _ (List.mem_of_getElem? (i := 58) rfl) rfl
theorem gw_539 : Cond.code ⟨"java/lang/Exception", "<init>", "(Ljava/lang/String;)V"⟩ prog_12_method_2_code 2 none ∈ gx_G := gx_c3 _ (List.mem_of_getElem? (i := 59) rfl) rfl
theorem gw_540 : Cond.methodLink "java/lang/Exception" 7 ⟨"java/lang/Throwable", "<init>", "(Ljava/lang/String;)V"⟩ ∈ gx_G := gx_c3 _ (List.mem_of_getElem? (i := 60) rfl) rfl
theorem gw_541 : Cond.instanceMethod ⟨"java/lang/Throwable", "<init>", "(Ljava/lang/String;)V"⟩ ∈ gx_G := gx_c3 _ (List.mem_of_getElem? (i := 61) rfl) rfl
theorem gw_542 : Cond.code ⟨"java/lang/Throwable", "<init>", "(Ljava/lang/String;)V"⟩ prog_20_method_2_code 2 none ∈ gx_G := gx_c3 _ (List.mem_of_getElem? (i := 62) rfl) rfl
theorem gw_543 : Cond.fieldLink "java/lang/Throwable" 198 "java/lang/Throwable" "backtrace" "Ljava/lang/Object;" ∈ gx_G := gx_c3 _ (List.mem_of_getElem? (i := 63) rfl) rfl
theorem gw_544 : Cond.fieldLink "java/lang/Throwable" 31 "java/lang/Throwable" "detailMessage" "Ljava/lang/String;" ∈ gx_G := gx_c3 _ (List.mem_of_getElem? (i := 64) rfl) rfl
theorem gw_545 : Cond.fieldLink "java/lang/Throwable" 7 "java/lang/Throwable" "cause" "Ljava/lang/Throwable;" ∈ gx_G := gx_c3 _ (List.mem_of_getElem? (i := 65) rfl) rfl
theorem gw_546 : Cond.fieldLink "java/lang/Throwable" 17 "java/lang/Throwable" "stackTrace" "[Ljava/lang/StackTraceElement;" ∈ gx_G := gx_c3 _ (List.mem_of_getElem? (i := 66) rfl) rfl
theorem gw_547 : Cond.fieldLink "java/lang/Throwable" 24 "java/lang/Throwable" "suppressedExceptions" "Ljava/util/List;" ∈ gx_G := gx_c3 _ (List.mem_of_getElem? (i := 67) rfl) rfl
theorem gw_548 : Cond.soleField "java/lang/Throwable" "backtrace" ∈ gx_G := gx_c3 _ (List.mem_of_getElem? (i := 68) rfl) rfl
theorem gw_549 : Cond.soleField "java/lang/Throwable" "detailMessage" ∈ gx_G := gx_c3 _ (List.mem_of_getElem? (i := 69) rfl) rfl
theorem gw_550 : Cond.soleField "java/lang/Throwable" "cause" ∈ gx_G := gx_c3 _ (List.mem_of_getElem? (i := 70) rfl) rfl
theorem gw_551 : Cond.soleField "java/lang/Throwable" "stackTrace" ∈ gx_G := gx_c3 _ (List.mem_of_getElem? (i := 71) rfl) rfl
theorem gw_552 : Cond.lays "java/lang/IllegalArgumentException" "java/lang/Throwable" "depth" "I" ∈ gx_G := gx_c3 _ (List.mem_of_getElem? (i := 72) rfl) rfl
theorem gw_553 : Cond.soleField "java/lang/Throwable" "depth" ∈ gx_G := gx_c3 _ (List.mem_of_getElem? (i := 73) rfl) rfl
theorem gw_554 : Cond.soleField "java/lang/Throwable" "suppressedExceptions" ∈ gx_G := gx_c3 _ (List.mem_of_getElem? (i := 74) rfl) rfl
theorem gw_555 : Cond.superclass "java/lang/IllegalArgumentException" "java/lang/RuntimeException" ∈ gx_G := gx_c3 _ (List.mem_of_getElem? (i := 75) rfl) rfl
theorem gw_556 : Cond.arrayClass FieldType.byte ∈ gx_G := gx_c3 _ (List.mem_of_getElem? (i := 76) rfl) rfl
theorem gw_557 : Cond.methodLink "KeypadWriter" 51 ⟨"KeypadWriter$ListText", "isFull", "()Z"⟩ ∈ gx_G := gx_c3 _ (List.mem_of_getElem? (i := 77) rfl) rfl
theorem gw_558 : Cond.instanceMethod ⟨"KeypadWriter$ListText", "isFull", "()Z"⟩ ∈ gx_G := gx_c3 _ (List.mem_of_getElem? (i := 78) rfl) rfl
theorem gw_559 : Cond.selects "KeypadWriter$ListText" ⟨"KeypadWriter$ListText", "isFull", "()Z"⟩ ⟨"KeypadWriter$ListText", "isFull", "()Z"⟩ ∈ gx_G := gx_c3 _ (List.mem_of_getElem? (i := 79) rfl) rfl
theorem gw_560 : Cond.code ⟨"KeypadWriter$ListText", "isFull", "()Z"⟩ prog_4_method_2_code 1 (Option.some FieldType.boolean) ∈ gx_G := gx_c3 _ (List.mem_of_getElem? (i := 80) rfl) rfl
theorem gw_561 : Cond.classLink "KeypadWriter" 55 "java/lang/IllegalStateException" ∈ gx_G := gx_c3 _ (List.mem_of_getElem? (i := 81) rfl) rfl
theorem gw_562 : Cond.instantiable "java/lang/IllegalStateException" 6 ∈ gx_G := gx_c3 _ (List.mem_of_getElem? (i := 82) rfl) rfl
theorem gw_564 : Cond.selects "java/lang/IllegalStateException" ⟨"java/lang/Throwable", "fillInStackTrace", "(I)Ljava/lang/Throwable;"⟩ ⟨"java/lang/Throwable", "fillInStackTrace", "(I)Ljava/lang/Throwable;"⟩ ∈ gx_G := gx_c3 _ (List.mem_of_getElem? (i := 84) rfl) rfl
theorem gw_565 : Cond.lays "java/lang/IllegalStateException" "java/lang/Throwable" "cause" "Ljava/lang/Throwable;" ∈ gx_G := gx_c3 _ (List.mem_of_getElem? (i := 85) rfl) rfl
theorem gw_566 : Cond.lays "java/lang/IllegalStateException" "java/lang/Throwable" "stackTrace" "[Ljava/lang/StackTraceElement;" ∈ gx_G := gx_c3 _ (List.mem_of_getElem? (i := 86) rfl) rfl
theorem gw_567 : Cond.lays "java/lang/IllegalStateException" "java/lang/Throwable" "suppressedExceptions" "Ljava/util/List;" ∈ gx_G := gx_c3 _ (List.mem_of_getElem? (i := 87) rfl) rfl
theorem gw_568 : Cond.lays "java/lang/IllegalStateException" "java/lang/Throwable" "detailMessage" "Ljava/lang/String;" ∈ gx_G := gx_c3 _ (List.mem_of_getElem? (i := 88) rfl) rfl
theorem gw_569 : Cond.lays "java/lang/IllegalStateException" "java/lang/Throwable" "backtrace" "Ljava/lang/Object;" ∈ gx_G := gx_c3 _ (List.mem_of_getElem? (i := 89) rfl) rfl
theorem gw_571 : Cond.methodLink "KeypadWriter" 59 ⟨"java/lang/IllegalStateException", "<init>", "(Ljava/lang/String;)V"⟩ ∈ gx_G := gx_c3 _ (List.mem_of_getElem? (i := 91) rfl) rfl
theorem gw_572 : Cond.instanceMethod ⟨"java/lang/IllegalStateException", "<init>", "(Ljava/lang/String;)V"⟩ ∈ gx_G := gx_c3 _ (List.mem_of_getElem? (i := 92) rfl) rfl
theorem gw_573 : Cond.code ⟨"java/lang/IllegalStateException", "<init>", "(Ljava/lang/String;)V"⟩ prog_14_method_2_code 2 none ∈ gx_G := gx_c3 _ (List.mem_of_getElem? (i := 93) rfl) rfl
theorem gw_574 : Cond.methodLink "java/lang/IllegalStateException" 7 ⟨"java/lang/RuntimeException", "<init>", "(Ljava/lang/String;)V"⟩ ∈ gx_G := gx_c3 _ (List.mem_of_getElem? (i := 94) rfl) rfl
theorem gw_575 : Cond.lays "java/lang/IllegalStateException" "java/lang/Throwable" "depth" "I" ∈ gx_G := gx_c3 _ (List.mem_of_getElem? (i := 95) rfl) rfl
theorem gw_576 : Cond.superclass "java/lang/IllegalStateException" "java/lang/RuntimeException" ∈ gx_G := gx_c3 _ (List.mem_of_getElem? (i := 96) rfl) rfl
theorem gw_577 : Cond.methodLink "KeypadWriter" 60 ⟨"KeypadWriter$ListText", "addByte", "(I)V"⟩ ∈ gx_G := gx_c3 _ (List.mem_of_getElem? (i := 97) rfl) rfl
theorem gw_578 : Cond.instanceMethod ⟨"KeypadWriter$ListText", "addByte", "(I)V"⟩ ∈ gx_G := gx_c3 _ (List.mem_of_getElem? (i := 98) rfl) rfl
theorem gw_579 : Cond.selects "KeypadWriter$ListText" ⟨"KeypadWriter$ListText", "addByte", "(I)V"⟩ ⟨"KeypadWriter$ListText", "addByte", "(I)V"⟩ ∈ gx_G := gx_c3 _ (List.mem_of_getElem? (i := 99) rfl) rfl
theorem gw_580 : Cond.code ⟨"KeypadWriter$ListText", "addByte", "(I)V"⟩ prog_4_method_4_code 2 none ∈ gx_G := gx_c3 _ (List.mem_of_getElem? (i := 100) rfl) rfl
theorem gw_581 : Cond.methodLink "KeypadWriter$ListText" 19 ⟨"KeypadWriter$ListText", "isFull", "()Z"⟩ ∈ gx_G := gx_c3 _ (List.mem_of_getElem? (i := 101) rfl) rfl
theorem gw_582 : Cond.methodLink "KeypadWriterLaw" 95 ⟨"KeypadWriterLaw", "setWays", "(LKeypadWriter;ZI[J)I"⟩ ∈ gx_G := gx_c3 _ (List.mem_of_getElem? (i := 102) rfl) rfl
theorem gw_583 : Cond.static ⟨"KeypadWriterLaw", "setWays", "(LKeypadWriter;ZI[J)I"⟩ ∈ gx_G := gx_c3 _ (List.mem_of_getElem? (i := 103) rfl) rfl
theorem gw_584 : Cond.codeWith ⟨"KeypadWriterLaw", "setWays", "(LKeypadWriter;ZI[J)I"⟩ method_4_code 5 (Option.some FieldType.int) [(0, 10, 13, 13)] ∈ gx_G := gx_c3 _ (List.mem_of_getElem? (i := 104) rfl) rfl
theorem gw_585 : Cond.methodLink "KeypadWriterLaw" 17 ⟨"KeypadWriter", "setWays", "(ZI)I"⟩ ∈ gx_G := gx_c3 _ (List.mem_of_getElem? (i := 105) rfl) rfl
theorem gw_586 : Cond.instanceMethod ⟨"KeypadWriter", "setWays", "(ZI)I"⟩ ∈ gx_G := gx_c3 _ (List.mem_of_getElem? (i := 106) rfl) rfl
theorem gw_587 : Cond.selects "KeypadWriter" ⟨"KeypadWriter", "setWays", "(ZI)I"⟩ ⟨"KeypadWriter", "setWays", "(ZI)I"⟩ ∈ gx_G := gx_c3 _ (List.mem_of_getElem? (i := 107) rfl) rfl
theorem gw_588 : Cond.code ⟨"KeypadWriter", "setWays", "(ZI)I"⟩ prog_1_method_5_code 4 (Option.some FieldType.int) ∈ gx_G := gx_c3 _ (List.mem_of_getElem? (i := 108) rfl) rfl
theorem gw_590 : Cond.methodLink "KeypadWriterLaw" 99 ⟨"KeypadWriterLaw", "word", "(LKeypadWriter;II[J)I"⟩ ∈ gx_G := gx_c3 _ (List.mem_of_getElem? (i := 110) rfl) rfl
theorem gw_591 : Cond.static ⟨"KeypadWriterLaw", "word", "(LKeypadWriter;II[J)I"⟩ ∈ gx_G := gx_c3 _ (List.mem_of_getElem? (i := 111) rfl) rfl
theorem gw_592 : Cond.codeWith ⟨"KeypadWriterLaw", "word", "(LKeypadWriter;II[J)I"⟩ method_5_code 5 (Option.some FieldType.int) [(0, 10, 13, 25), (0, 10, 17, 13)] ∈ gx_G := gx_c3 _ (List.mem_of_getElem? (i := 112) rfl) rfl
theorem gw_593 : Cond.classLink "KeypadWriterLaw" 25 "java/lang/IndexOutOfBoundsException" ∈ gx_G := gx_c3 _ (List.mem_of_getElem? (i := 113) rfl) rfl
theorem gw_594 : Cond.methodLink "KeypadWriterLaw" 21 ⟨"KeypadWriter", "word", "(II)I"⟩ ∈ gx_G := gx_c3 _ (List.mem_of_getElem? (i := 114) rfl) rfl
theorem gw_595 : Cond.instanceMethod ⟨"KeypadWriter", "word", "(II)I"⟩ ∈ gx_G := gx_c3 _ (List.mem_of_getElem? (i := 115) rfl) rfl
theorem gw_596 : Cond.selects "KeypadWriter" ⟨"KeypadWriter", "word", "(II)I"⟩ ⟨"KeypadWriter", "word", "(II)I"⟩ ∈ gx_G := gx_c3 _ (List.mem_of_getElem? (i := 116) rfl) rfl
theorem gw_597 : Cond.code ⟨"KeypadWriter", "word", "(II)I"⟩ prog_1_method_6_code 3 (Option.some FieldType.int) ∈ gx_G := gx_c3 _ (List.mem_of_getElem? (i := 117) rfl) rfl
theorem gw_598 : Cond.methodLink "KeypadWriter" 101 ⟨"KeypadWriter$WordList", "has", "(I)Z"⟩ ∈ gx_G := gx_c3 _ (List.mem_of_getElem? (i := 118) rfl) rfl
theorem gw_599 : Cond.classLink "KeypadWriter" 105 "java/lang/IndexOutOfBoundsException" ∈ gx_G := gx_c3 _ (List.mem_of_getElem? (i := 119) rfl) rfl
theorem gw_600 : Cond.instantiable "java/lang/IndexOutOfBoundsException" 6 ∈ gx_G := gx_c3 _ (List.mem_of_getElem? (i := 120) rfl) rfl
theorem gw_602 : Cond.selects "java/lang/IndexOutOfBoundsException" ⟨"java/lang/Throwable", "fillInStackTrace", "(I)Ljava/lang/Throwable;"⟩ ⟨"java/lang/Throwable", "fillInStackTrace", "(I)Ljava/lang/Throwable;"⟩ ∈ gx_G := gx_c3 _ (List.mem_of_getElem? (i := 122) rfl) rfl
theorem gw_603 : Cond.lays "java/lang/IndexOutOfBoundsException" "java/lang/Throwable" "cause" "Ljava/lang/Throwable;" ∈ gx_G := gx_c3 _ (List.mem_of_getElem? (i := 123) rfl) rfl
theorem gw_604 : Cond.lays "java/lang/IndexOutOfBoundsException" "java/lang/Throwable" "stackTrace" "[Ljava/lang/StackTraceElement;" ∈ gx_G := gx_c3 _ (List.mem_of_getElem? (i := 124) rfl) rfl
theorem gw_605 : Cond.lays "java/lang/IndexOutOfBoundsException" "java/lang/Throwable" "suppressedExceptions" "Ljava/util/List;" ∈ gx_G := gx_c3 _ (List.mem_of_getElem? (i := 125) rfl) rfl
theorem gw_606 : Cond.lays "java/lang/IndexOutOfBoundsException" "java/lang/Throwable" "detailMessage" "Ljava/lang/String;" ∈ gx_G := gx_c3 _ (List.mem_of_getElem? (i := 126) rfl) rfl
theorem gw_607 : Cond.lays "java/lang/IndexOutOfBoundsException" "java/lang/Throwable" "backtrace" "Ljava/lang/Object;" ∈ gx_G := gx_c3 _ (List.mem_of_getElem? (i := 127) rfl) rfl
theorem gw_609 : Cond.methodLink "KeypadWriter" 109 ⟨"java/lang/IndexOutOfBoundsException", "<init>", "(Ljava/lang/String;)V"⟩ ∈ gx_G := gx_c3 _ (List.mem_of_getElem? (i := 129) rfl) rfl
theorem gw_610 : Cond.instanceMethod ⟨"java/lang/IndexOutOfBoundsException", "<init>", "(Ljava/lang/String;)V"⟩ ∈ gx_G := gx_c3 _ (List.mem_of_getElem? (i := 130) rfl) rfl
theorem gw_611 : Cond.code ⟨"java/lang/IndexOutOfBoundsException", "<init>", "(Ljava/lang/String;)V"⟩ prog_15_method_2_code 2 none ∈ gx_G := gx_c3 _ (List.mem_of_getElem? (i := 131) rfl) rfl
theorem gw_612 : Cond.methodLink "java/lang/IndexOutOfBoundsException" 7 ⟨"java/lang/RuntimeException", "<init>", "(Ljava/lang/String;)V"⟩ ∈ gx_G := gx_c3 _ (List.mem_of_getElem? (i := 132) rfl) rfl
theorem gw_613 : Cond.lays "java/lang/IndexOutOfBoundsException" "java/lang/Throwable" "depth" "I" ∈ gx_G := gx_c3 _ (List.mem_of_getElem? (i := 133) rfl) rfl
theorem gw_614 : Cond.superclass "java/lang/IndexOutOfBoundsException" "java/lang/RuntimeException" ∈ gx_G := gx_c3 _ (List.mem_of_getElem? (i := 134) rfl) rfl
theorem gw_616 : Cond.methodLink "KeypadWriterLaw" 103 ⟨"KeypadWriterLaw", "letter", "(LKeypadWriter;II[J)I"⟩ ∈ gx_G := gx_c3 _ (List.mem_of_getElem? (i := 136) rfl) rfl
theorem gw_617 : Cond.static ⟨"KeypadWriterLaw", "letter", "(LKeypadWriter;II[J)I"⟩ ∈ gx_G := gx_c3 _ (List.mem_of_getElem? (i := 137) rfl) rfl
theorem gw_618 : Cond.codeWith ⟨"KeypadWriterLaw", "letter", "(LKeypadWriter;II[J)I"⟩ method_6_code 5 (Option.some FieldType.int) [(0, 10, 13, 25)] ∈ gx_G := gx_c3 _ (List.mem_of_getElem? (i := 138) rfl) rfl
theorem gw_619 : Cond.methodLink "KeypadWriterLaw" 27 ⟨"KeypadWriter", "letter", "(II)I"⟩ ∈ gx_G := gx_c3 _ (List.mem_of_getElem? (i := 139) rfl) rfl
theorem gw_620 : Cond.instanceMethod ⟨"KeypadWriter", "letter", "(II)I"⟩ ∈ gx_G := gx_c3 _ (List.mem_of_getElem? (i := 140) rfl) rfl
theorem gw_621 : Cond.selects "KeypadWriter" ⟨"KeypadWriter", "letter", "(II)I"⟩ ⟨"KeypadWriter", "letter", "(II)I"⟩ ∈ gx_G := gx_c3 _ (List.mem_of_getElem? (i := 141) rfl) rfl
theorem gw_622 : Cond.code ⟨"KeypadWriter", "letter", "(II)I"⟩ prog_1_method_7_code 5 (Option.some FieldType.int) ∈ gx_G := gx_c3 _ (List.mem_of_getElem? (i := 142) rfl) rfl
theorem gw_623 : Cond.methodLink "KeypadWriter" 120 ⟨"KeypadWriter$Slots", "has", "(JI)Z"⟩ ∈ gx_G := gx_c3 _ (List.mem_of_getElem? (i := 143) rfl) rfl
theorem gw_625 : Cond.methodLink "KeypadWriterLaw" 106 ⟨"KeypadWriterLaw", "press", "(LKeypadWriter;I[J)I"⟩ ∈ gx_G := gx_c3 _ (List.mem_of_getElem? (i := 145) rfl) rfl
theorem gw_626 : Cond.static ⟨"KeypadWriterLaw", "press", "(LKeypadWriter;I[J)I"⟩ ∈ gx_G := gx_c3 _ (List.mem_of_getElem? (i := 146) rfl) rfl
theorem gw_627 : Cond.codeWith ⟨"KeypadWriterLaw", "press", "(LKeypadWriter;I[J)I"⟩ method_7_code 4 (Option.some FieldType.int) [(0, 9, 12, 13), (0, 9, 15, 15)] ∈ gx_G := gx_c3 _ (List.mem_of_getElem? (i := 147) rfl) rfl
theorem gw_628 : Cond.methodLink "KeypadWriterLaw" 30 ⟨"KeypadWriter", "press", "(I)I"⟩ ∈ gx_G := gx_c3 _ (List.mem_of_getElem? (i := 148) rfl) rfl
theorem gw_629 : Cond.instanceMethod ⟨"KeypadWriter", "press", "(I)I"⟩ ∈ gx_G := gx_c3 _ (List.mem_of_getElem? (i := 149) rfl) rfl
theorem gw_630 : Cond.selects "KeypadWriter" ⟨"KeypadWriter", "press", "(I)I"⟩ ⟨"KeypadWriter", "press", "(I)I"⟩ ∈ gx_G := gx_c3 _ (List.mem_of_getElem? (i := 150) rfl) rfl
theorem gw_631 : Cond.code ⟨"KeypadWriter", "press", "(I)I"⟩ prog_1_method_8_code 3 (Option.some FieldType.int) ∈ gx_G := gx_c3 _ (List.mem_of_getElem? (i := 151) rfl) rfl
theorem gw_632 : Cond.methodLink "KeypadWriter" 131 ⟨"KeypadWriter$Keys", "isKey", "(I)Z"⟩ ∈ gx_G := gx_c3 _ (List.mem_of_getElem? (i := 152) rfl) rfl
theorem gw_635 : Cond.methodLink "KeypadWriter" 147 ⟨"KeypadWriter$State", "turnLastPlace", "()V"⟩ ∈ gx_G := gx_c3 _ (List.mem_of_getElem? (i := 155) rfl) rfl
theorem gw_636 : Cond.instanceMethod ⟨"KeypadWriter$State", "turnLastPlace", "()V"⟩ ∈ gx_G := gx_c3 _ (List.mem_of_getElem? (i := 156) rfl) rfl
theorem gw_637 : Cond.selects "KeypadWriter$State" ⟨"KeypadWriter$State", "turnLastPlace", "()V"⟩ ⟨"KeypadWriter$State", "turnLastPlace", "()V"⟩ ∈ gx_G := gx_c3 _ (List.mem_of_getElem? (i := 157) rfl) rfl
theorem gw_638 : Cond.code ⟨"KeypadWriter$State", "turnLastPlace", "()V"⟩ prog_7_method_5_code 3 none ∈ gx_G := gx_c3 _ (List.mem_of_getElem? (i := 158) rfl) rfl
theorem gw_639 : Cond.methodLink "KeypadWriter$State" 65 ⟨"KeypadWriter$State", "places", "()I"⟩ ∈ gx_G := gx_c3 _ (List.mem_of_getElem? (i := 159) rfl) rfl
theorem gw_640 : Cond.methodLink "KeypadWriter$State" 85 ⟨"KeypadWriter$Slots", "letterAt", "(JI)I"⟩ ∈ gx_G := gx_c3 _ (List.mem_of_getElem? (i := 160) rfl) rfl
theorem gw_641 : Cond.methodLink "KeypadWriter$State" 89 ⟨"KeypadWriter$Keys", "letterBehind", "(I)I"⟩ ∈ gx_G := gx_c3 _ (List.mem_of_getElem? (i := 161) rfl) rfl
theorem gw_642 : Cond.static ⟨"KeypadWriter$Keys", "letterBehind", "(I)I"⟩ ∈ gx_G := gx_c3 _ (List.mem_of_getElem? (i := 162) rfl) rfl
theorem gw_643 : Cond.code ⟨"KeypadWriter$Keys", "letterBehind", "(I)I"⟩ prog_3_method_5_code 2 (Option.some FieldType.int) ∈ gx_G := gx_c3 _ (List.mem_of_getElem? (i := 163) rfl) rfl
theorem gw_644 : Cond.methodLink "KeypadWriter$State" 75 ⟨"KeypadWriter$Slots", "codeOfLetter", "(I)I"⟩ ∈ gx_G := gx_c3 _ (List.mem_of_getElem? (i := 164) rfl) rfl
theorem gw_645 : Cond.methodLink "KeypadWriter$State" 78 ⟨"KeypadWriter$Slots", "with", "(JII)J"⟩ ∈ gx_G := gx_c3 _ (List.mem_of_getElem? (i := 165) rfl) rfl
theorem gw_646 : Cond.methodLink "KeypadWriter" 150 ⟨"KeypadWriter$State", "addPlace", "(I)V"⟩ ∈ gx_G := gx_c3 _ (List.mem_of_getElem? (i := 166) rfl) rfl
theorem gw_647 : Cond.instanceMethod ⟨"KeypadWriter$State", "addPlace", "(I)V"⟩ ∈ gx_G := gx_c3 _ (List.mem_of_getElem? (i := 167) rfl) rfl
theorem gw_648 : Cond.selects "KeypadWriter$State" ⟨"KeypadWriter$State", "addPlace", "(I)V"⟩ ⟨"KeypadWriter$State", "addPlace", "(I)V"⟩ ∈ gx_G := gx_c3 _ (List.mem_of_getElem? (i := 168) rfl) rfl
theorem gw_649 : Cond.code ⟨"KeypadWriter$State", "addPlace", "(I)V"⟩ prog_7_method_4_code 2 none ∈ gx_G := gx_c3 _ (List.mem_of_getElem? (i := 169) rfl) rfl
theorem gw_650 : Cond.methodLink "KeypadWriter$State" 69 ⟨"KeypadWriter$Keys", "firstLetter", "(I)I"⟩ ∈ gx_G := gx_c3 _ (List.mem_of_getElem? (i := 170) rfl) rfl
theorem gw_651 : Cond.methodLink "KeypadWriter$State" 82 ⟨"KeypadWriter$Slots", "codeOfKey", "(I)I"⟩ ∈ gx_G := gx_c3 _ (List.mem_of_getElem? (i := 171) rfl) rfl
theorem gw_652 : Cond.methodLink "KeypadWriterLaw" 118 ⟨"KeypadWriterLaw", "next", "(LKeypadWriter;[J)I"⟩ ∈ gx_G := gx_c3 _ (List.mem_of_getElem? (i := 172) rfl) rfl
theorem gw_653 : Cond.static ⟨"KeypadWriterLaw", "next", "(LKeypadWriter;[J)I"⟩ ∈ gx_G := gx_c3 _ (List.mem_of_getElem? (i := 173) rfl) rfl
theorem gw_654 : Cond.codeWith ⟨"KeypadWriterLaw", "next", "(LKeypadWriter;[J)I"⟩ method_8_code 3 (Option.some FieldType.int) [(0, 8, 11, 15)] ∈ gx_G := gx_c3 _ (List.mem_of_getElem? (i := 174) rfl) rfl
theorem gw_655 : Cond.methodLink "KeypadWriterLaw" 33 ⟨"KeypadWriter", "next", "()I"⟩ ∈ gx_G := gx_c3 _ (List.mem_of_getElem? (i := 175) rfl) rfl
theorem gw_656 : Cond.instanceMethod ⟨"KeypadWriter", "next", "()I"⟩ ∈ gx_G := gx_c3 _ (List.mem_of_getElem? (i := 176) rfl) rfl
theorem gw_657 : Cond.selects "KeypadWriter" ⟨"KeypadWriter", "next", "()I"⟩ ⟨"KeypadWriter", "next", "()I"⟩ ∈ gx_G := gx_c3 _ (List.mem_of_getElem? (i := 177) rfl) rfl
theorem gw_658 : Cond.code ⟨"KeypadWriter", "next", "()I"⟩ prog_1_method_11_code 2 (Option.some FieldType.int) ∈ gx_G := gx_c3 _ (List.mem_of_getElem? (i := 178) rfl) rfl
theorem gw_660 : Cond.methodLink "KeypadWriterLaw" 122 ⟨"KeypadWriterLaw", "erase", "(LKeypadWriter;[J)I"⟩ ∈ gx_G := gx_c3 _ (List.mem_of_getElem? (i := 180) rfl) rfl
theorem gw_661 : Cond.static ⟨"KeypadWriterLaw", "erase", "(LKeypadWriter;[J)I"⟩ ∈ gx_G := gx_c3 _ (List.mem_of_getElem? (i := 181) rfl) rfl
theorem gw_662 : Cond.codeWith ⟨"KeypadWriterLaw", "erase", "(LKeypadWriter;[J)I"⟩ method_9_code 3 (Option.some FieldType.int) [(0, 8, 11, 15)] ∈ gx_G := gx_c3 _ (List.mem_of_getElem? (i := 182) rfl) rfl
theorem gw_663 : Cond.methodLink "KeypadWriterLaw" 37 ⟨"KeypadWriter", "erase", "()I"⟩ ∈ gx_G := gx_c3 _ (List.mem_of_getElem? (i := 183) rfl) rfl
theorem gw_664 : Cond.instanceMethod ⟨"KeypadWriter", "erase", "()I"⟩ ∈ gx_G := gx_c3 _ (List.mem_of_getElem? (i := 184) rfl) rfl
theorem gw_665 : Cond.selects "KeypadWriter" ⟨"KeypadWriter", "erase", "()I"⟩ ⟨"KeypadWriter", "erase", "()I"⟩ ∈ gx_G := gx_c3 _ (List.mem_of_getElem? (i := 185) rfl) rfl
theorem gw_666 : Cond.code ⟨"KeypadWriter", "erase", "()I"⟩ prog_1_method_12_code 1 (Option.some FieldType.int) ∈ gx_G := gx_c3 _ (List.mem_of_getElem? (i := 186) rfl) rfl
theorem gw_668 : Cond.methodLink "KeypadWriter" 176 ⟨"KeypadWriter$State", "dropLastPlace", "()V"⟩ ∈ gx_G := gx_c3 _ (List.mem_of_getElem? (i := 188) rfl) rfl
theorem gw_669 : Cond.instanceMethod ⟨"KeypadWriter$State", "dropLastPlace", "()V"⟩ ∈ gx_G := gx_c3 _ (List.mem_of_getElem? (i := 189) rfl) rfl
theorem gw_670 : Cond.selects "KeypadWriter$State" ⟨"KeypadWriter$State", "dropLastPlace", "()V"⟩ ⟨"KeypadWriter$State", "dropLastPlace", "()V"⟩ ∈ gx_G := gx_c3 _ (List.mem_of_getElem? (i := 190) rfl) rfl
theorem gw_671 : Cond.code ⟨"KeypadWriter$State", "dropLastPlace", "()V"⟩ prog_7_method_6_code 1 none ∈ gx_G := gx_c3 _ (List.mem_of_getElem? (i := 191) rfl) rfl
theorem gw_672 : Cond.methodLink "KeypadWriter$State" 92 ⟨"KeypadWriter$Slots", "firstOf", "(JI)J"⟩ ∈ gx_G := gx_c3 _ (List.mem_of_getElem? (i := 192) rfl) rfl
theorem gw_673 : Cond.methodLink "KeypadWriter$State" 96 ⟨"KeypadWriter$WrittenText", "remove", "(I)V"⟩ ∈ gx_G := gx_c3 _ (List.mem_of_getElem? (i := 193) rfl) rfl
theorem gw_674 : Cond.instanceMethod ⟨"KeypadWriter$WrittenText", "remove", "(I)V"⟩ ∈ gx_G := gx_c3 _ (List.mem_of_getElem? (i := 194) rfl) rfl
theorem gw_675 : Cond.selects "KeypadWriter$WrittenText" ⟨"KeypadWriter$WrittenText", "remove", "(I)V"⟩ ⟨"KeypadWriter$WrittenText", "remove", "(I)V"⟩ ∈ gx_G := gx_c3 _ (List.mem_of_getElem? (i := 195) rfl) rfl
theorem gw_676 : Cond.code ⟨"KeypadWriter$WrittenText", "remove", "(I)V"⟩ prog_9_method_7_code 3 none ∈ gx_G := gx_c3 _ (List.mem_of_getElem? (i := 196) rfl) rfl
theorem gw_677 : Cond.methodLink "KeypadWriterLaw" 125 ⟨"KeypadWriterLaw", "accept", "(LKeypadWriter;[J)I"⟩ ∈ gx_G := gx_c3 _ (List.mem_of_getElem? (i := 197) rfl) rfl
theorem gw_678 : Cond.static ⟨"KeypadWriterLaw", "accept", "(LKeypadWriter;[J)I"⟩ ∈ gx_G := gx_c3 _ (List.mem_of_getElem? (i := 198) rfl) rfl
theorem gw_679 : Cond.codeWith ⟨"KeypadWriterLaw", "accept", "(LKeypadWriter;[J)I"⟩ method_10_code 3 (Option.some FieldType.int) [(0, 8, 11, 15)] ∈ gx_G := gx_c3 _ (List.mem_of_getElem? (i := 199) rfl) rfl
theorem gw_680 : Cond.methodLink "KeypadWriterLaw" 40 ⟨"KeypadWriter", "accept", "()I"⟩ ∈ gx_G := gx_c3 _ (List.mem_of_getElem? (i := 200) rfl) rfl
theorem gw_681 : Cond.instanceMethod ⟨"KeypadWriter", "accept", "()I"⟩ ∈ gx_G := gx_c3 _ (List.mem_of_getElem? (i := 201) rfl) rfl
theorem gw_682 : Cond.selects "KeypadWriter" ⟨"KeypadWriter", "accept", "()I"⟩ ⟨"KeypadWriter", "accept", "()I"⟩ ∈ gx_G := gx_c3 _ (List.mem_of_getElem? (i := 202) rfl) rfl
theorem gw_683 : Cond.code ⟨"KeypadWriter", "accept", "()I"⟩ prog_1_method_13_code 1 (Option.some FieldType.int) ∈ gx_G := gx_c3 _ (List.mem_of_getElem? (i := 203) rfl) rfl
theorem gw_685 : Cond.methodLink "KeypadWriter" 191 ⟨"KeypadWriter$State", "takeWord", "(J)V"⟩ ∈ gx_G := gx_c3 _ (List.mem_of_getElem? (i := 205) rfl) rfl
theorem gw_686 : Cond.instanceMethod ⟨"KeypadWriter$State", "takeWord", "(J)V"⟩ ∈ gx_G := gx_c3 _ (List.mem_of_getElem? (i := 206) rfl) rfl
theorem gw_687 : Cond.selects "KeypadWriter$State" ⟨"KeypadWriter$State", "takeWord", "(J)V"⟩ ⟨"KeypadWriter$State", "takeWord", "(J)V"⟩ ∈ gx_G := gx_c3 _ (List.mem_of_getElem? (i := 207) rfl) rfl
theorem gw_688 : Cond.code ⟨"KeypadWriter$State", "takeWord", "(J)V"⟩ prog_7_method_8_code 3 none ∈ gx_G := gx_c3 _ (List.mem_of_getElem? (i := 208) rfl) rfl
theorem gw_689 : Cond.methodLink "KeypadWriter$State" 104 ⟨"KeypadWriter$WordList", "countUse", "(JI)V"⟩ ∈ gx_G := gx_c3 _ (List.mem_of_getElem? (i := 209) rfl) rfl
theorem gw_690 : Cond.instanceMethod ⟨"KeypadWriter$WordList", "countUse", "(JI)V"⟩ ∈ gx_G := gx_c3 _ (List.mem_of_getElem? (i := 210) rfl) rfl
theorem gw_691 : Cond.selects "KeypadWriter$WordList" ⟨"KeypadWriter$WordList", "countUse", "(JI)V"⟩ ⟨"KeypadWriter$WordList", "countUse", "(JI)V"⟩ ∈ gx_G := gx_c3 _ (List.mem_of_getElem? (i := 211) rfl) rfl
theorem gw_692 : Cond.code ⟨"KeypadWriter$WordList", "countUse", "(JI)V"⟩ prog_8_method_18_code 5 none ∈ gx_G := gx_c3 _ (List.mem_of_getElem? (i := 212) rfl) rfl
theorem gw_693 : Cond.methodLink "KeypadWriter$WordList" 85 ⟨"KeypadWriter$WordList", "find", "(J)I"⟩ ∈ gx_G := gx_c3 _ (List.mem_of_getElem? (i := 213) rfl) rfl
theorem gw_694 : Cond.methodLink "KeypadWriter$WordList" 88 ⟨"java/lang/Math", "min", "(II)I"⟩ ∈ gx_G := gx_c3 _ (List.mem_of_getElem? (i := 214) rfl) rfl
theorem gw_695 : Cond.static ⟨"java/lang/Math", "min", "(II)I"⟩ ∈ gx_G := gx_c3 _ (List.mem_of_getElem? (i := 215) rfl) rfl
theorem gw_696 : Cond.code ⟨"java/lang/Math", "min", "(II)I"⟩ prog_16_method_69_code 2 (Option.some FieldType.int) ∈ gx_G := gx_c3 _ (List.mem_of_getElem? (i := 216) rfl) rfl
theorem gw_697 : Cond.methodLink "KeypadWriter$WordList" 94 ⟨"KeypadWriter$WordList", "lastAdded", "()I"⟩ ∈ gx_G := gx_c3 _ (List.mem_of_getElem? (i := 217) rfl) rfl
theorem gw_699 : Cond.instanceMethod ⟨"KeypadWriter$WordList", "lastAdded", "()I"⟩ ∈ gx_G := gx_c3 _ (List.mem_of_getElem? (i := 219) rfl) rfl
theorem gw_700 : Cond.code ⟨"KeypadWriter$WordList", "lastAdded", "()I"⟩ prog_8_method_19_code 3 (Option.some FieldType.int) ∈ gx_G := gx_c3 _ (List.mem_of_getElem? (i := 220) rfl) rfl
theorem gw_701 : Cond.methodLink "KeypadWriter$WordList" 98 ⟨"KeypadWriter$WordList", "remove", "(I)V"⟩ ∈ gx_G := gx_c3 _ (List.mem_of_getElem? (i := 221) rfl) rfl
theorem gw_702 : Cond.instanceMethod ⟨"KeypadWriter$WordList", "remove", "(I)V"⟩ ∈ gx_G := gx_c3 _ (List.mem_of_getElem? (i := 222) rfl) rfl
theorem gw_703 : Cond.selects "KeypadWriter$WordList" ⟨"KeypadWriter$WordList", "remove", "(I)V"⟩ ⟨"KeypadWriter$WordList", "remove", "(I)V"⟩ ∈ gx_G := gx_c3 _ (List.mem_of_getElem? (i := 223) rfl) rfl
theorem gw_704 : Cond.code ⟨"KeypadWriter$WordList", "remove", "(I)V"⟩ prog_8_method_17_code 4 none ∈ gx_G := gx_c3 _ (List.mem_of_getElem? (i := 224) rfl) rfl
theorem gw_705 : Cond.methodLink "KeypadWriter$WordList" 102 ⟨"KeypadWriter$WordList", "insert", "(JIIZ)V"⟩ ∈ gx_G := gx_c3 _ (List.mem_of_getElem? (i := 225) rfl) rfl
theorem gw_706 : Cond.methodLink "KeypadWriter$State" 108 ⟨"KeypadWriter$WordList", "ageAllBut", "(J)V"⟩ ∈ gx_G := gx_c3 _ (List.mem_of_getElem? (i := 226) rfl) rfl
theorem gw_707 : Cond.instanceMethod ⟨"KeypadWriter$WordList", "ageAllBut", "(J)V"⟩ ∈ gx_G := gx_c3 _ (List.mem_of_getElem? (i := 227) rfl) rfl
theorem gw_708 : Cond.selects "KeypadWriter$WordList" ⟨"KeypadWriter$WordList", "ageAllBut", "(J)V"⟩ ⟨"KeypadWriter$WordList", "ageAllBut", "(J)V"⟩ ∈ gx_G := gx_c3 _ (List.mem_of_getElem? (i := 228) rfl) rfl
theorem gw_709 : Cond.code ⟨"KeypadWriter$WordList", "ageAllBut", "(J)V"⟩ prog_8_method_20_code 4 none ∈ gx_G := gx_c3 _ (List.mem_of_getElem? (i := 229) rfl) rfl
theorem gw_710 : Cond.methodLink "KeypadWriter$State" 112 ⟨"KeypadWriter$WrittenText", "addWord", "(J)V"⟩ ∈ gx_G := gx_c3 _ (List.mem_of_getElem? (i := 230) rfl) rfl
theorem gw_711 : Cond.instanceMethod ⟨"KeypadWriter$WrittenText", "addWord", "(J)V"⟩ ∈ gx_G := gx_c3 _ (List.mem_of_getElem? (i := 231) rfl) rfl
theorem gw_712 : Cond.selects "KeypadWriter$WrittenText" ⟨"KeypadWriter$WrittenText", "addWord", "(J)V"⟩ ⟨"KeypadWriter$WrittenText", "addWord", "(J)V"⟩ ∈ gx_G := gx_c3 _ (List.mem_of_getElem? (i := 232) rfl) rfl
theorem gw_713 : Cond.code ⟨"KeypadWriter$WrittenText", "addWord", "(J)V"⟩ prog_9_method_5_code 3 none ∈ gx_G := gx_c3 _ (List.mem_of_getElem? (i := 233) rfl) rfl
theorem gw_714 : Cond.methodLink "KeypadWriter$State" 115 ⟨"KeypadWriter$WrittenText", "replace", "(IJ)V"⟩ ∈ gx_G := gx_c3 _ (List.mem_of_getElem? (i := 234) rfl) rfl
theorem gw_715 : Cond.instanceMethod ⟨"KeypadWriter$WrittenText", "replace", "(IJ)V"⟩ ∈ gx_G := gx_c3 _ (List.mem_of_getElem? (i := 235) rfl) rfl
theorem gw_716 : Cond.selects "KeypadWriter$WrittenText" ⟨"KeypadWriter$WrittenText", "replace", "(IJ)V"⟩ ⟨"KeypadWriter$WrittenText", "replace", "(IJ)V"⟩ ∈ gx_G := gx_c3 _ (List.mem_of_getElem? (i := 236) rfl) rfl
theorem gw_717 : Cond.code ⟨"KeypadWriter$WrittenText", "replace", "(IJ)V"⟩ prog_9_method_6_code 4 none ∈ gx_G := gx_c3 _ (List.mem_of_getElem? (i := 237) rfl) rfl
theorem gw_718 : Cond.methodLink "KeypadWriterLaw" 128 ⟨"KeypadWriterLaw", "open", "(LKeypadWriter;I[J)I"⟩ ∈ gx_G := gx_c3 _ (List.mem_of_getElem? (i := 238) rfl) rfl
theorem gw_719 : Cond.static ⟨"KeypadWriterLaw", "open", "(LKeypadWriter;I[J)I"⟩ ∈ gx_G := gx_c3 _ (List.mem_of_getElem? (i := 239) rfl) rfl
theorem gw_720 : Cond.codeWith ⟨"KeypadWriterLaw", "open", "(LKeypadWriter;I[J)I"⟩ method_11_code 4 (Option.some FieldType.int) [(0, 9, 12, 25), (0, 9, 15, 15)] ∈ gx_G := gx_c4 _ (List.mem_of_getElem? (i := 0) rfl) rfl
theorem gw_721 : Cond.methodLink "KeypadWriterLaw" 43 ⟨"KeypadWriter", "open", "(I)I"⟩ ∈ gx_G := gx_c4 _ (List.mem_of_getElem? (i := 1) rfl) rfl
theorem gw_722 : Cond.instanceMethod ⟨"KeypadWriter", "open", "(I)I"⟩ ∈ gx_G := gx_c4 _ (List.mem_of_getElem? (i := 2) rfl) rfl
theorem gw_723 : Cond.selects "KeypadWriter" ⟨"KeypadWriter", "open", "(I)I"⟩ ⟨"KeypadWriter", "open", "(I)I"⟩ ∈ gx_G := gx_c4 _ (List.mem_of_getElem? (i := 3) rfl) rfl
theorem gw_724 : Cond.code ⟨"KeypadWriter", "open", "(I)I"⟩ prog_1_method_14_code 2 (Option.some FieldType.int) ∈ gx_G := gx_c4 _ (List.mem_of_getElem? (i := 4) rfl) rfl
theorem gw_725 : Cond.methodLink "KeypadWriter" 195 ⟨"KeypadWriter$WrittenText", "has", "(I)Z"⟩ ∈ gx_G := gx_c4 _ (List.mem_of_getElem? (i := 5) rfl) rfl
theorem gw_728 : Cond.methodLink "KeypadWriter" 200 ⟨"KeypadWriter$State", "openWritten", "(I)V"⟩ ∈ gx_G := gx_c4 _ (List.mem_of_getElem? (i := 8) rfl) rfl
theorem gw_729 : Cond.instanceMethod ⟨"KeypadWriter$State", "openWritten", "(I)V"⟩ ∈ gx_G := gx_c4 _ (List.mem_of_getElem? (i := 9) rfl) rfl
theorem gw_730 : Cond.selects "KeypadWriter$State" ⟨"KeypadWriter$State", "openWritten", "(I)V"⟩ ⟨"KeypadWriter$State", "openWritten", "(I)V"⟩ ∈ gx_G := gx_c4 _ (List.mem_of_getElem? (i := 10) rfl) rfl
theorem gw_731 : Cond.code ⟨"KeypadWriter$State", "openWritten", "(I)V"⟩ prog_7_method_7_code 2 none ∈ gx_G := gx_c4 _ (List.mem_of_getElem? (i := 11) rfl) rfl
theorem gw_732 : Cond.methodLink "KeypadWriter$State" 100 ⟨"KeypadWriter$WrittenText", "wordAt", "(I)J"⟩ ∈ gx_G := gx_c4 _ (List.mem_of_getElem? (i := 12) rfl) rfl
theorem gw_733 : Cond.methodLink "KeypadWriterLaw" 131 ⟨"KeypadWriterLaw", "setting", "(LKeypadWriter;I[J)I"⟩ ∈ gx_G := gx_c4 _ (List.mem_of_getElem? (i := 13) rfl) rfl
theorem gw_734 : Cond.static ⟨"KeypadWriterLaw", "setting", "(LKeypadWriter;I[J)I"⟩ ∈ gx_G := gx_c4 _ (List.mem_of_getElem? (i := 14) rfl) rfl
theorem gw_735 : Cond.codeWith ⟨"KeypadWriterLaw", "setting", "(LKeypadWriter;I[J)I"⟩ method_12_code 4 (Option.some FieldType.int) [(0, 9, 12, 13)] ∈ gx_G := gx_c4 _ (List.mem_of_getElem? (i := 15) rfl) rfl
theorem gw_736 : Cond.methodLink "KeypadWriterLaw" 46 ⟨"KeypadWriter", "setting", "(I)I"⟩ ∈ gx_G := gx_c4 _ (List.mem_of_getElem? (i := 16) rfl) rfl
theorem gw_737 : Cond.instanceMethod ⟨"KeypadWriter", "setting", "(I)I"⟩ ∈ gx_G := gx_c4 _ (List.mem_of_getElem? (i := 17) rfl) rfl
theorem gw_738 : Cond.selects "KeypadWriter" ⟨"KeypadWriter", "setting", "(I)I"⟩ ⟨"KeypadWriter", "setting", "(I)I"⟩ ∈ gx_G := gx_c4 _ (List.mem_of_getElem? (i := 18) rfl) rfl
theorem gw_739 : Cond.code ⟨"KeypadWriter", "setting", "(I)I"⟩ prog_1_method_15_code 2 (Option.some FieldType.int) ∈ gx_G := gx_c4 _ (List.mem_of_getElem? (i := 19) rfl) rfl
theorem gw_741 : Cond.methodLink "KeypadWriterLaw" 134 ⟨"KeypadWriterLaw", "place", "(LKeypadWriter;I[J)I"⟩ ∈ gx_G := gx_c4 _ (List.mem_of_getElem? (i := 21) rfl) rfl
theorem gw_742 : Cond.static ⟨"KeypadWriterLaw", "place", "(LKeypadWriter;I[J)I"⟩ ∈ gx_G := gx_c4 _ (List.mem_of_getElem? (i := 22) rfl) rfl
theorem gw_743 : Cond.codeWith ⟨"KeypadWriterLaw", "place", "(LKeypadWriter;I[J)I"⟩ method_13_code 4 (Option.some FieldType.int) [(0, 9, 12, 25)] ∈ gx_G := gx_c4 _ (List.mem_of_getElem? (i := 23) rfl) rfl
theorem gw_744 : Cond.methodLink "KeypadWriterLaw" 49 ⟨"KeypadWriter", "place", "(I)I"⟩ ∈ gx_G := gx_c4 _ (List.mem_of_getElem? (i := 24) rfl) rfl
theorem gw_745 : Cond.instanceMethod ⟨"KeypadWriter", "place", "(I)I"⟩ ∈ gx_G := gx_c4 _ (List.mem_of_getElem? (i := 25) rfl) rfl
theorem gw_746 : Cond.selects "KeypadWriter" ⟨"KeypadWriter", "place", "(I)I"⟩ ⟨"KeypadWriter", "place", "(I)I"⟩ ∈ gx_G := gx_c4 _ (List.mem_of_getElem? (i := 26) rfl) rfl
theorem gw_747 : Cond.code ⟨"KeypadWriter", "place", "(I)I"⟩ prog_1_method_16_code 2 (Option.some FieldType.int) ∈ gx_G := gx_c4 _ (List.mem_of_getElem? (i := 27) rfl) rfl
theorem gw_749 : Cond.methodLink "KeypadWriterLaw" 137 ⟨"KeypadWriterLaw", "display", "(LKeypadWriter;I[J)I"⟩ ∈ gx_G := gx_c4 _ (List.mem_of_getElem? (i := 29) rfl) rfl
theorem gw_750 : Cond.static ⟨"KeypadWriterLaw", "display", "(LKeypadWriter;I[J)I"⟩ ∈ gx_G := gx_c4 _ (List.mem_of_getElem? (i := 30) rfl) rfl
theorem gw_751 : Cond.codeWith ⟨"KeypadWriterLaw", "display", "(LKeypadWriter;I[J)I"⟩ method_14_code 4 (Option.some FieldType.int) [(0, 9, 12, 13)] ∈ gx_G := gx_c4 _ (List.mem_of_getElem? (i := 31) rfl) rfl
theorem gw_752 : Cond.methodLink "KeypadWriterLaw" 52 ⟨"KeypadWriter", "display", "(I)I"⟩ ∈ gx_G := gx_c4 _ (List.mem_of_getElem? (i := 32) rfl) rfl
theorem gw_753 : Cond.instanceMethod ⟨"KeypadWriter", "display", "(I)I"⟩ ∈ gx_G := gx_c4 _ (List.mem_of_getElem? (i := 33) rfl) rfl
theorem gw_754 : Cond.selects "KeypadWriter" ⟨"KeypadWriter", "display", "(I)I"⟩ ⟨"KeypadWriter", "display", "(I)I"⟩ ∈ gx_G := gx_c4 _ (List.mem_of_getElem? (i := 34) rfl) rfl
theorem gw_755 : Cond.code ⟨"KeypadWriter", "display", "(I)I"⟩ prog_1_method_17_code 4 (Option.some FieldType.int) ∈ gx_G := gx_c4 _ (List.mem_of_getElem? (i := 35) rfl) rfl
theorem gw_757 : Cond.methodLink "KeypadWriterLaw" 140 ⟨"KeypadWriterLaw", "candidate", "(LKeypadWriter;I[J)I"⟩ ∈ gx_G := gx_c4 _ (List.mem_of_getElem? (i := 37) rfl) rfl
theorem gw_758 : Cond.static ⟨"KeypadWriterLaw", "candidate", "(LKeypadWriter;I[J)I"⟩ ∈ gx_G := gx_c4 _ (List.mem_of_getElem? (i := 38) rfl) rfl
theorem gw_759 : Cond.codeWith ⟨"KeypadWriterLaw", "candidate", "(LKeypadWriter;I[J)I"⟩ method_15_code 4 (Option.some FieldType.int) [(0, 9, 12, 25)] ∈ gx_G := gx_c4 _ (List.mem_of_getElem? (i := 39) rfl) rfl
theorem gw_760 : Cond.methodLink "KeypadWriterLaw" 55 ⟨"KeypadWriter", "candidate", "(I)I"⟩ ∈ gx_G := gx_c4 _ (List.mem_of_getElem? (i := 40) rfl) rfl
theorem gw_761 : Cond.instanceMethod ⟨"KeypadWriter", "candidate", "(I)I"⟩ ∈ gx_G := gx_c4 _ (List.mem_of_getElem? (i := 41) rfl) rfl
theorem gw_762 : Cond.selects "KeypadWriter" ⟨"KeypadWriter", "candidate", "(I)I"⟩ ⟨"KeypadWriter", "candidate", "(I)I"⟩ ∈ gx_G := gx_c4 _ (List.mem_of_getElem? (i := 42) rfl) rfl
theorem gw_763 : Cond.code ⟨"KeypadWriter", "candidate", "(I)I"⟩ prog_1_method_18_code 2 (Option.some FieldType.int) ∈ gx_G := gx_c4 _ (List.mem_of_getElem? (i := 43) rfl) rfl
theorem gw_765 : Cond.methodLink "KeypadWriterLaw" 143 ⟨"KeypadWriterLaw", "written", "(LKeypadWriter;II[J)I"⟩ ∈ gx_G := gx_c4 _ (List.mem_of_getElem? (i := 45) rfl) rfl
theorem gw_766 : Cond.static ⟨"KeypadWriterLaw", "written", "(LKeypadWriter;II[J)I"⟩ ∈ gx_G := gx_c4 _ (List.mem_of_getElem? (i := 46) rfl) rfl
theorem gw_767 : Cond.codeWith ⟨"KeypadWriterLaw", "written", "(LKeypadWriter;II[J)I"⟩ method_16_code 5 (Option.some FieldType.int) [(0, 10, 13, 25)] ∈ gx_G := gx_c4 _ (List.mem_of_getElem? (i := 47) rfl) rfl
theorem gw_768 : Cond.methodLink "KeypadWriterLaw" 58 ⟨"KeypadWriter", "written", "(II)I"⟩ ∈ gx_G := gx_c4 _ (List.mem_of_getElem? (i := 48) rfl) rfl
theorem gw_769 : Cond.instanceMethod ⟨"KeypadWriter", "written", "(II)I"⟩ ∈ gx_G := gx_c4 _ (List.mem_of_getElem? (i := 49) rfl) rfl
theorem gw_770 : Cond.selects "KeypadWriter" ⟨"KeypadWriter", "written", "(II)I"⟩ ⟨"KeypadWriter", "written", "(II)I"⟩ ∈ gx_G := gx_c4 _ (List.mem_of_getElem? (i := 50) rfl) rfl
theorem gw_771 : Cond.code ⟨"KeypadWriter", "written", "(II)I"⟩ prog_1_method_19_code 5 (Option.some FieldType.int) ∈ gx_G := gx_c4 _ (List.mem_of_getElem? (i := 51) rfl) rfl
theorem gw_772 : Cond.methodLink "KeypadWriterLaw" 146 ⟨"KeypadWriterLaw", "steps", "(LKeypadWriter;I[J)I"⟩ ∈ gx_G := gx_c4 _ (List.mem_of_getElem? (i := 52) rfl) rfl
theorem gw_773 : Cond.static ⟨"KeypadWriterLaw", "steps", "(LKeypadWriter;I[J)I"⟩ ∈ gx_G := gx_c4 _ (List.mem_of_getElem? (i := 53) rfl) rfl
theorem gw_774 : Cond.codeWith ⟨"KeypadWriterLaw", "steps", "(LKeypadWriter;I[J)I"⟩ method_17_code 4 (Option.some FieldType.int) [(0, 9, 12, 25)] ∈ gx_G := gx_c4 _ (List.mem_of_getElem? (i := 54) rfl) rfl
theorem gw_775 : Cond.methodLink "KeypadWriterLaw" 61 ⟨"KeypadWriter", "steps", "(I)I"⟩ ∈ gx_G := gx_c4 _ (List.mem_of_getElem? (i := 55) rfl) rfl
theorem gw_776 : Cond.instanceMethod ⟨"KeypadWriter", "steps", "(I)I"⟩ ∈ gx_G := gx_c4 _ (List.mem_of_getElem? (i := 56) rfl) rfl
theorem gw_777 : Cond.selects "KeypadWriter" ⟨"KeypadWriter", "steps", "(I)I"⟩ ⟨"KeypadWriter", "steps", "(I)I"⟩ ∈ gx_G := gx_c4 _ (List.mem_of_getElem? (i := 57) rfl) rfl
theorem gw_778 : Cond.code ⟨"KeypadWriter", "steps", "(I)I"⟩ prog_1_method_20_code 2 (Option.some FieldType.int) ∈ gx_G := gx_c4 _ (List.mem_of_getElem? (i := 58) rfl) rfl
theorem gw_779 : Cond.methodLink "KeypadWriterLaw" 149 ⟨"KeypadWriterLaw", "presses", "(LKeypadWriter;IZ[J)I"⟩ ∈ gx_G := gx_c4 _ (List.mem_of_getElem? (i := 59) rfl) rfl
theorem gw_780 : Cond.static ⟨"KeypadWriterLaw", "presses", "(LKeypadWriter;IZ[J)I"⟩ ∈ gx_G := gx_c4 _ (List.mem_of_getElem? (i := 60) rfl) rfl
theorem gw_781 : Cond.codeWith ⟨"KeypadWriterLaw", "presses", "(LKeypadWriter;IZ[J)I"⟩ method_18_code 5 (Option.some FieldType.int) [(0, 10, 13, 25)] ∈ gx_G := gx_c4 _ (List.mem_of_getElem? (i := 61) rfl) rfl
theorem gw_782 : Cond.methodLink "KeypadWriterLaw" 64 ⟨"KeypadWriter", "presses", "(IZ)I"⟩ ∈ gx_G := gx_c4 _ (List.mem_of_getElem? (i := 62) rfl) rfl
theorem gw_783 : Cond.instanceMethod ⟨"KeypadWriter", "presses", "(IZ)I"⟩ ∈ gx_G := gx_c4 _ (List.mem_of_getElem? (i := 63) rfl) rfl
theorem gw_784 : Cond.selects "KeypadWriter" ⟨"KeypadWriter", "presses", "(IZ)I"⟩ ⟨"KeypadWriter", "presses", "(IZ)I"⟩ ∈ gx_G := gx_c4 _ (List.mem_of_getElem? (i := 64) rfl) rfl
theorem gw_785 : Cond.code ⟨"KeypadWriter", "presses", "(IZ)I"⟩ prog_1_method_21_code 3 (Option.some FieldType.int) ∈ gx_G := gx_c4 _ (List.mem_of_getElem? (i := 65) rfl) rfl
theorem gw_786 : Cond.methodLink "KeypadWriter" 228 ⟨"KeypadWriter$WordList", "tapsFor", "(I)I"⟩ ∈ gx_G := gx_c4 _ (List.mem_of_getElem? (i := 66) rfl) rfl
theorem gw_787 : Cond.methodLink "KeypadWriter" 231 ⟨"KeypadWriter$WordList", "guessesFor", "(I)I"⟩ ∈ gx_G := gx_c4 _ (List.mem_of_getElem? (i := 67) rfl) rfl
theorem gw_788 : Cond.methodLink "KeypadWriterLaw" 162 ⟨"KeypadWriterLaw", "shortest", "(LKeypadWriter;I[J)I"⟩ ∈ gx_G := gx_c4 _ (List.mem_of_getElem? (i := 68) rfl) rfl
theorem gw_789 : Cond.static ⟨"KeypadWriterLaw", "shortest", "(LKeypadWriter;I[J)I"⟩ ∈ gx_G := gx_c4 _ (List.mem_of_getElem? (i := 69) rfl) rfl
theorem gw_790 : Cond.codeWith ⟨"KeypadWriterLaw", "shortest", "(LKeypadWriter;I[J)I"⟩ method_19_code 4 (Option.some FieldType.int) [(0, 9, 12, 25)] ∈ gx_G := gx_c4 _ (List.mem_of_getElem? (i := 70) rfl) rfl
theorem gw_791 : Cond.methodLink "KeypadWriterLaw" 68 ⟨"KeypadWriter", "shortest", "(I)I"⟩ ∈ gx_G := gx_c4 _ (List.mem_of_getElem? (i := 71) rfl) rfl
theorem gw_792 : Cond.instanceMethod ⟨"KeypadWriter", "shortest", "(I)I"⟩ ∈ gx_G := gx_c4 _ (List.mem_of_getElem? (i := 72) rfl) rfl
theorem gw_793 : Cond.selects "KeypadWriter" ⟨"KeypadWriter", "shortest", "(I)I"⟩ ⟨"KeypadWriter", "shortest", "(I)I"⟩ ∈ gx_G := gx_c4 _ (List.mem_of_getElem? (i := 73) rfl) rfl
theorem gw_794 : Cond.code ⟨"KeypadWriter", "shortest", "(I)I"⟩ prog_1_method_24_code 6 (Option.some FieldType.int) ∈ gx_G := gx_c4 _ (List.mem_of_getElem? (i := 74) rfl) rfl
theorem gw_795 : Cond.methodLink "KeypadWriter" 241 ⟨"KeypadWriter$WordList", "keysAt", "(I)J"⟩ ∈ gx_G := gx_c4 _ (List.mem_of_getElem? (i := 75) rfl) rfl
theorem gw_796 : Cond.methodLink "KeypadWriter" 244 ⟨"KeypadWriter$Candidates", "firstWith", "(LKeypadWriter$WordList;J)I"⟩ ∈ gx_G := gx_c4 _ (List.mem_of_getElem? (i := 76) rfl) rfl
theorem gw_797 : Cond.static ⟨"KeypadWriter$Candidates", "firstWith", "(LKeypadWriter$WordList;J)I"⟩ ∈ gx_G := gx_c4 _ (List.mem_of_getElem? (i := 77) rfl) rfl
theorem gw_798 : Cond.code ⟨"KeypadWriter$Candidates", "firstWith", "(LKeypadWriter$WordList;J)I"⟩ prog_2_method_5_code 6 (Option.some FieldType.int) ∈ gx_G := gx_c4 _ (List.mem_of_getElem? (i := 78) rfl) rfl
theorem gw_799 : Cond.methodLink "KeypadWriter$Candidates" 62 ⟨"KeypadWriter$Slots", "lengthOf", "(J)I"⟩ ∈ gx_G := gx_c4 _ (List.mem_of_getElem? (i := 79) rfl) rfl
theorem gw_800 : Cond.methodLink "KeypadWriterLaw" 165 ⟨"KeypadWriterLaw", "undo", "(LKeypadWriter;[J)I"⟩ ∈ gx_G := gx_c4 _ (List.mem_of_getElem? (i := 80) rfl) rfl
theorem gw_801 : Cond.static ⟨"KeypadWriterLaw", "undo", "(LKeypadWriter;[J)I"⟩ ∈ gx_G := gx_c4 _ (List.mem_of_getElem? (i := 81) rfl) rfl
theorem gw_802 : Cond.codeWith ⟨"KeypadWriterLaw", "undo", "(LKeypadWriter;[J)I"⟩ method_20_code 3 (Option.some FieldType.int) [(0, 8, 11, 15)] ∈ gx_G := gx_c4 _ (List.mem_of_getElem? (i := 82) rfl) rfl
theorem gw_803 : Cond.methodLink "KeypadWriterLaw" 71 ⟨"KeypadWriter", "undo", "()I"⟩ ∈ gx_G := gx_c4 _ (List.mem_of_getElem? (i := 83) rfl) rfl
theorem gw_804 : Cond.instanceMethod ⟨"KeypadWriter", "undo", "()I"⟩ ∈ gx_G := gx_c4 _ (List.mem_of_getElem? (i := 84) rfl) rfl
theorem gw_805 : Cond.selects "KeypadWriter" ⟨"KeypadWriter", "undo", "()I"⟩ ⟨"KeypadWriter", "undo", "()I"⟩ ∈ gx_G := gx_c4 _ (List.mem_of_getElem? (i := 85) rfl) rfl
theorem gw_806 : Cond.code ⟨"KeypadWriter", "undo", "()I"⟩ prog_1_method_25_code 1 (Option.some FieldType.int) ∈ gx_G := gx_c4 _ (List.mem_of_getElem? (i := 86) rfl) rfl
theorem gw_808 : Cond.methodLink "KeypadWriter" 251 ⟨"KeypadWriter$SavedStates", "popInto", "(LKeypadWriter$State;)V"⟩ ∈ gx_G := gx_c4 _ (List.mem_of_getElem? (i := 88) rfl) rfl
theorem gw_809 : Cond.instanceMethod ⟨"KeypadWriter$SavedStates", "popInto", "(LKeypadWriter$State;)V"⟩ ∈ gx_G := gx_c4 _ (List.mem_of_getElem? (i := 89) rfl) rfl
theorem gw_810 : Cond.selects "KeypadWriter$SavedStates" ⟨"KeypadWriter$SavedStates", "popInto", "(LKeypadWriter$State;)V"⟩ ⟨"KeypadWriter$SavedStates", "popInto", "(LKeypadWriter$State;)V"⟩ ∈ gx_G := gx_c4 _ (List.mem_of_getElem? (i := 90) rfl) rfl
theorem gw_811 : Cond.code ⟨"KeypadWriter$SavedStates", "popInto", "(LKeypadWriter$State;)V"⟩ prog_5_method_3_code 3 none ∈ gx_G := gx_c4 _ (List.mem_of_getElem? (i := 91) rfl) rfl
theorem gw_812 : Cond.classLink "KeypadWriterLaw" 75 "KeypadWriterModel" ∈ gx_G := gx_c4 _ (List.mem_of_getElem? (i := 92) rfl) rfl
theorem gw_813 : Cond.instantiable "KeypadWriterModel" 10 ∈ gx_G := gx_c4 _ (List.mem_of_getElem? (i := 93) rfl) rfl
theorem gw_814 : Cond.methodLink "KeypadWriterLaw" 77 ⟨"KeypadWriterModel", "<init>", "()V"⟩ ∈ gx_G := gx_c4 _ (List.mem_of_getElem? (i := 94) rfl) rfl
theorem gw_815 : Cond.instanceMethod ⟨"KeypadWriterModel", "<init>", "()V"⟩ ∈ gx_G := gx_c4 _ (List.mem_of_getElem? (i := 95) rfl) rfl
theorem gw_816 : Cond.code ⟨"KeypadWriterModel", "<init>", "()V"⟩ prog_11_method_1_code 1 none ∈ gx_G := gx_c4 _ (List.mem_of_getElem? (i := 96) rfl) rfl
theorem gw_817 : Cond.methodLink "KeypadWriterModel" 1 ⟨"java/lang/Object", "<init>", "()V"⟩ ∈ gx_G := gx_c4 _ (List.mem_of_getElem? (i := 97) rfl) rfl
theorem gw_818 : Cond.fieldLink "KeypadWriterModel" 7 "KeypadWriterModel" "all" "[I" ∈ gx_G := gx_c4 _ (List.mem_of_getElem? (i := 98) rfl) rfl
theorem gw_819 : Cond.fieldLink "KeypadWriterModel" 13 "KeypadWriterModel" "saved" "[I" ∈ gx_G := gx_c4 _ (List.mem_of_getElem? (i := 99) rfl) rfl
theorem gw_820 : Cond.fieldLink "KeypadWriterModel" 16 "KeypadWriterModel" "aside" "[I" ∈ gx_G := gx_c4 _ (List.mem_of_getElem? (i := 100) rfl) rfl
theorem gw_821 : Cond.fieldLink "KeypadWriterModel" 29 "KeypadWriterModel" "savedMany" "I" ∈ gx_G := gx_c4 _ (List.mem_of_getElem? (i := 101) rfl) rfl
theorem gw_822 : Cond.fieldLink "KeypadWriterModel" 25 "KeypadWriterModel" "thrown" "I" ∈ gx_G := gx_c4 _ (List.mem_of_getElem? (i := 102) rfl) rfl
theorem gw_823 : Cond.fieldLink "KeypadWriterModel" 19 "KeypadWriterModel" "shown" "[I" ∈ gx_G := gx_c4 _ (List.mem_of_getElem? (i := 103) rfl) rfl
theorem gw_824 : Cond.fieldLink "KeypadWriterModel" 92 "KeypadWriterModel" "shownMany" "I" ∈ gx_G := gx_c4 _ (List.mem_of_getElem? (i := 104) rfl) rfl
theorem gw_825 : Cond.fieldLink "KeypadWriterModel" 22 "KeypadWriterModel" "text" "[I" ∈ gx_G := gx_c4 _ (List.mem_of_getElem? (i := 105) rfl) rfl
theorem gw_826 : Cond.fieldLink "KeypadWriterModel" 157 "KeypadWriterModel" "textLong" "I" ∈ gx_G := gx_c4 _ (List.mem_of_getElem? (i := 106) rfl) rfl
theorem gw_827 : Cond.fieldLink "KeypadWriterModel" 160 "KeypadWriterModel" "place" "I" ∈ gx_G := gx_c4 _ (List.mem_of_getElem? (i := 107) rfl) rfl
theorem gw_828 : Cond.laysFinal "KeypadWriterModel" "KeypadWriterModel" "all" "[I" ∈ gx_G := gx_c4 _ (List.mem_of_getElem? (i := 108) rfl) rfl
theorem gw_829 : Cond.soleField "KeypadWriterModel" "all" ∈ gx_G := gx_c4 _ (List.mem_of_getElem? (i := 109) rfl) rfl
theorem gw_830 : Cond.laysFinal "KeypadWriterModel" "KeypadWriterModel" "saved" "[I" ∈ gx_G := gx_c4 _ (List.mem_of_getElem? (i := 110) rfl) rfl
theorem gw_831 : Cond.soleField "KeypadWriterModel" "saved" ∈ gx_G := gx_c4 _ (List.mem_of_getElem? (i := 111) rfl) rfl
theorem gw_832 : Cond.laysFinal "KeypadWriterModel" "KeypadWriterModel" "aside" "[I" ∈ gx_G := gx_c4 _ (List.mem_of_getElem? (i := 112) rfl) rfl
theorem gw_833 : Cond.soleField "KeypadWriterModel" "aside" ∈ gx_G := gx_c4 _ (List.mem_of_getElem? (i := 113) rfl) rfl
theorem gw_834 : Cond.lays "KeypadWriterModel" "KeypadWriterModel" "savedMany" "I" ∈ gx_G := gx_c4 _ (List.mem_of_getElem? (i := 114) rfl) rfl
theorem gw_835 : Cond.soleField "KeypadWriterModel" "savedMany" ∈ gx_G := gx_c4 _ (List.mem_of_getElem? (i := 115) rfl) rfl
theorem gw_836 : Cond.lays "KeypadWriterModel" "KeypadWriterModel" "thrown" "I" ∈ gx_G := gx_c4 _ (List.mem_of_getElem? (i := 116) rfl) rfl
theorem gw_837 : Cond.soleField "KeypadWriterModel" "thrown" ∈ gx_G := gx_c4 _ (List.mem_of_getElem? (i := 117) rfl) rfl
theorem gw_838 : Cond.laysFinal "KeypadWriterModel" "KeypadWriterModel" "shown" "[I" ∈ gx_G := gx_c4 _ (List.mem_of_getElem? (i := 118) rfl) rfl
theorem gw_839 : Cond.soleField "KeypadWriterModel" "shown" ∈ gx_G := gx_c4 _ (List.mem_of_getElem? (i := 119) rfl) rfl
theorem gw_840 : Cond.lays "KeypadWriterModel" "KeypadWriterModel" "shownMany" "I" ∈ gx_G := gx_c4 _ (List.mem_of_getElem? (i := 120) rfl) rfl
theorem gw_841 : Cond.soleField "KeypadWriterModel" "shownMany" ∈ gx_G := gx_c4 _ (List.mem_of_getElem? (i := 121) rfl) rfl
theorem gw_842 : Cond.laysFinal "KeypadWriterModel" "KeypadWriterModel" "text" "[I" ∈ gx_G := gx_c4 _ (List.mem_of_getElem? (i := 122) rfl) rfl
theorem gw_843 : Cond.soleField "KeypadWriterModel" "text" ∈ gx_G := gx_c4 _ (List.mem_of_getElem? (i := 123) rfl) rfl
theorem gw_844 : Cond.lays "KeypadWriterModel" "KeypadWriterModel" "textLong" "I" ∈ gx_G := gx_c4 _ (List.mem_of_getElem? (i := 124) rfl) rfl
theorem gw_845 : Cond.soleField "KeypadWriterModel" "textLong" ∈ gx_G := gx_c4 _ (List.mem_of_getElem? (i := 125) rfl) rfl
theorem gw_846 : Cond.lays "KeypadWriterModel" "KeypadWriterModel" "place" "I" ∈ gx_G := gx_c4 _ (List.mem_of_getElem? (i := 126) rfl) rfl
theorem gw_847 : Cond.soleField "KeypadWriterModel" "place" ∈ gx_G := gx_c4 _ (List.mem_of_getElem? (i := 127) rfl) rfl
theorem gw_848 : Cond.superclass "KeypadWriterModel" "java/lang/Object" ∈ gx_G := gx_c4 _ (List.mem_of_getElem? (i := 128) rfl) rfl
theorem gw_849 : Cond.methodLink "KeypadWriterLaw" 84 ⟨"KeypadWriterModel", "thrown", "()I"⟩ ∈ gx_G := gx_c4 _ (List.mem_of_getElem? (i := 129) rfl) rfl
theorem gw_850 : Cond.instanceMethod ⟨"KeypadWriterModel", "thrown", "()I"⟩ ∈ gx_G := gx_c4 _ (List.mem_of_getElem? (i := 130) rfl) rfl
theorem gw_851 : Cond.selects "KeypadWriterModel" ⟨"KeypadWriterModel", "thrown", "()I"⟩ ⟨"KeypadWriterModel", "thrown", "()I"⟩ ∈ gx_G := gx_c4 _ (List.mem_of_getElem? (i := 131) rfl) rfl
theorem gw_852 : Cond.code ⟨"KeypadWriterModel", "thrown", "()I"⟩ prog_11_method_2_code 1 (Option.some FieldType.int) ∈ gx_G := gx_c4 _ (List.mem_of_getElem? (i := 132) rfl) rfl
theorem gw_853 : Cond.methodLink "KeypadWriterLaw" 102 ⟨"KeypadWriterModel", "word", "(II)I"⟩ ∈ gx_G := gx_c4 _ (List.mem_of_getElem? (i := 133) rfl) rfl
theorem gw_854 : Cond.instanceMethod ⟨"KeypadWriterModel", "word", "(II)I"⟩ ∈ gx_G := gx_c4 _ (List.mem_of_getElem? (i := 134) rfl) rfl
theorem gw_855 : Cond.selects "KeypadWriterModel" ⟨"KeypadWriterModel", "word", "(II)I"⟩ ⟨"KeypadWriterModel", "word", "(II)I"⟩ ∈ gx_G := gx_c4 _ (List.mem_of_getElem? (i := 135) rfl) rfl
theorem gw_856 : Cond.code ⟨"KeypadWriterModel", "word", "(II)I"⟩ prog_11_method_20_code 3 (Option.some FieldType.int) ∈ gx_G := gx_c4 _ (List.mem_of_getElem? (i := 136) rfl) rfl
theorem gw_857 : Cond.methodLink "KeypadWriterModel" 66 ⟨"KeypadWriterModel", "isWord", "(I)Z"⟩ ∈ gx_G := gx_c4 _ (List.mem_of_getElem? (i := 137) rfl) rfl
theorem gw_859 : Cond.instanceMethod ⟨"KeypadWriterModel", "isWord", "(I)Z"⟩ ∈ gx_G := gx_c4 _ (List.mem_of_getElem? (i := 139) rfl) rfl
theorem gw_860 : Cond.code ⟨"KeypadWriterModel", "isWord", "(I)Z"⟩ prog_11_method_15_code 2 (Option.some FieldType.boolean) ∈ gx_G := gx_c4 _ (List.mem_of_getElem? (i := 140) rfl) rfl
theorem gw_861 : Cond.methodLink "KeypadWriterModel" 46 ⟨"KeypadWriterModel", "in", "(JJJ)Z"⟩ ∈ gx_G := gx_c4 _ (List.mem_of_getElem? (i := 141) rfl) rfl
theorem gw_862 : Cond.static ⟨"KeypadWriterModel", "in", "(JJJ)Z"⟩ ∈ gx_G := gx_c4 _ (List.mem_of_getElem? (i := 142) rfl) rfl
theorem gw_863 : Cond.code ⟨"KeypadWriterModel", "in", "(JJJ)Z"⟩ prog_11_method_3_code 6 (Option.some FieldType.boolean) ∈ gx_G := gx_c4 _ (List.mem_of_getElem? (i := 143) rfl) rfl
theorem gw_864 : Cond.constantLong "KeypadWriterModel" 70 (4 : Int64) ∈ gx_G := gx_c4 _ (List.mem_of_getElem? (i := 144) rfl) rfl
theorem gw_865 : Cond.methodLink "KeypadWriterModel" 72 ⟨"KeypadWriterModel", "goes", "(ZZ)Z"⟩ ∈ gx_G := gx_c4 _ (List.mem_of_getElem? (i := 145) rfl) rfl
theorem gw_867 : Cond.instanceMethod ⟨"KeypadWriterModel", "goes", "(ZZ)Z"⟩ ∈ gx_G := gx_c4 _ (List.mem_of_getElem? (i := 147) rfl) rfl
theorem gw_868 : Cond.code ⟨"KeypadWriterModel", "goes", "(ZZ)Z"⟩ prog_11_method_4_code 3 (Option.some FieldType.boolean) ∈ gx_G := gx_c4 _ (List.mem_of_getElem? (i := 148) rfl) rfl
theorem gw_869 : Cond.methodLink "KeypadWriterModel" 76 ⟨"KeypadWriterModel", "wordValue", "(II)I"⟩ ∈ gx_G := gx_c4 _ (List.mem_of_getElem? (i := 149) rfl) rfl
theorem gw_871 : Cond.instanceMethod ⟨"KeypadWriterModel", "wordValue", "(II)I"⟩ ∈ gx_G := gx_c4 _ (List.mem_of_getElem? (i := 151) rfl) rfl
theorem gw_872 : Cond.code ⟨"KeypadWriterModel", "wordValue", "(II)I"⟩ prog_11_method_19_code 3 (Option.some FieldType.int) ∈ gx_G := gx_c4 _ (List.mem_of_getElem? (i := 152) rfl) rfl
theorem gw_873 : Cond.methodLink "KeypadWriterModel" 63 ⟨"KeypadWriterModel", "rankOf", "(I)I"⟩ ∈ gx_G := gx_c4 _ (List.mem_of_getElem? (i := 153) rfl) rfl
theorem gw_875 : Cond.instanceMethod ⟨"KeypadWriterModel", "rankOf", "(I)I"⟩ ∈ gx_G := gx_c4 _ (List.mem_of_getElem? (i := 155) rfl) rfl
theorem gw_876 : Cond.code ⟨"KeypadWriterModel", "rankOf", "(I)I"⟩ prog_11_method_18_code 4 (Option.some FieldType.int) ∈ gx_G := gx_c4 _ (List.mem_of_getElem? (i := 156) rfl) rfl
theorem gw_877 : Cond.methodLink "KeypadWriterModel" 59 ⟨"KeypadWriterModel", "isAhead", "(II)Z"⟩ ∈ gx_G := gx_c4 _ (List.mem_of_getElem? (i := 157) rfl) rfl
theorem gw_879 : Cond.instanceMethod ⟨"KeypadWriterModel", "isAhead", "(II)Z"⟩ ∈ gx_G := gx_c4 _ (List.mem_of_getElem? (i := 159) rfl) rfl
theorem gw_880 : Cond.code ⟨"KeypadWriterModel", "isAhead", "(II)Z"⟩ prog_11_method_17_code 3 (Option.some FieldType.boolean) ∈ gx_G := gx_c4 _ (List.mem_of_getElem? (i := 160) rfl) rfl
theorem gw_881 : Cond.methodLink "KeypadWriterModel" 50 ⟨"KeypadWriterModel", "of", "(II)I"⟩ ∈ gx_G := gx_c4 _ (List.mem_of_getElem? (i := 161) rfl) rfl
theorem gw_883 : Cond.instanceMethod ⟨"KeypadWriterModel", "of", "(II)I"⟩ ∈ gx_G := gx_c4 _ (List.mem_of_getElem? (i := 163) rfl) rfl
theorem gw_884 : Cond.code ⟨"KeypadWriterModel", "of", "(II)I"⟩ prog_11_method_13_code 3 (Option.some FieldType.int) ∈ gx_G := gx_c4 _ (List.mem_of_getElem? (i := 164) rfl) rfl
theorem gw_885 : Cond.methodLink "KeypadWriterModel" 42 ⟨"KeypadWriterModel", "at", "(II)I"⟩ ∈ gx_G := gx_c4 _ (List.mem_of_getElem? (i := 165) rfl) rfl
theorem gw_886 : Cond.static ⟨"KeypadWriterModel", "at", "(II)I"⟩ ∈ gx_G := gx_c4 _ (List.mem_of_getElem? (i := 166) rfl) rfl
theorem gw_887 : Cond.code ⟨"KeypadWriterModel", "at", "(II)I"⟩ prog_11_method_12_code 2 (Option.some FieldType.int) ∈ gx_G := gx_c4 _ (List.mem_of_getElem? (i := 167) rfl) rfl
theorem gw_888 : Cond.methodLink "KeypadWriterModel" 56 ⟨"KeypadWriterModel", "compares", "(II)I"⟩ ∈ gx_G := gx_c4 _ (List.mem_of_getElem? (i := 168) rfl) rfl
theorem gw_890 : Cond.instanceMethod ⟨"KeypadWriterModel", "compares", "(II)I"⟩ ∈ gx_G := gx_c4 _ (List.mem_of_getElem? (i := 170) rfl) rfl
theorem gw_891 : Cond.code ⟨"KeypadWriterModel", "compares", "(II)I"⟩ prog_11_method_16_code 4 (Option.some FieldType.int) ∈ gx_G := gx_c4 _ (List.mem_of_getElem? (i := 171) rfl) rfl
theorem gw_892 : Cond.methodLink "KeypadWriterModel" 53 ⟨"KeypadWriterModel", "letterOf", "(II)I"⟩ ∈ gx_G := gx_c4 _ (List.mem_of_getElem? (i := 172) rfl) rfl
theorem gw_894 : Cond.instanceMethod ⟨"KeypadWriterModel", "letterOf", "(II)I"⟩ ∈ gx_G := gx_c4 _ (List.mem_of_getElem? (i := 174) rfl) rfl
theorem gw_895 : Cond.code ⟨"KeypadWriterModel", "letterOf", "(II)I"⟩ prog_11_method_14_code 3 (Option.some FieldType.int) ∈ gx_G := gx_c4 _ (List.mem_of_getElem? (i := 175) rfl) rfl
theorem gw_896 : Cond.methodLink "KeypadWriterLaw" 105 ⟨"KeypadWriterModel", "letter", "(II)I"⟩ ∈ gx_G := gx_c4 _ (List.mem_of_getElem? (i := 176) rfl) rfl
theorem gw_897 : Cond.instanceMethod ⟨"KeypadWriterModel", "letter", "(II)I"⟩ ∈ gx_G := gx_c4 _ (List.mem_of_getElem? (i := 177) rfl) rfl
theorem gw_898 : Cond.selects "KeypadWriterModel" ⟨"KeypadWriterModel", "letter", "(II)I"⟩ ⟨"KeypadWriterModel", "letter", "(II)I"⟩ ∈ gx_G := gx_c4 _ (List.mem_of_getElem? (i := 178) rfl) rfl
theorem gw_899 : Cond.code ⟨"KeypadWriterModel", "letter", "(II)I"⟩ prog_11_method_21_code 3 (Option.some FieldType.int) ∈ gx_G := gx_c4 _ (List.mem_of_getElem? (i := 179) rfl) rfl
theorem gw_900 : Cond.methodLink "KeypadWriterLaw" 142 ⟨"KeypadWriterModel", "candidate", "(I)I"⟩ ∈ gx_G := gx_c4 _ (List.mem_of_getElem? (i := 180) rfl) rfl
theorem gw_901 : Cond.instanceMethod ⟨"KeypadWriterModel", "candidate", "(I)I"⟩ ∈ gx_G := gx_c4 _ (List.mem_of_getElem? (i := 181) rfl) rfl
theorem gw_902 : Cond.selects "KeypadWriterModel" ⟨"KeypadWriterModel", "candidate", "(I)I"⟩ ⟨"KeypadWriterModel", "candidate", "(I)I"⟩ ∈ gx_G := gx_c4 _ (List.mem_of_getElem? (i := 182) rfl) rfl
theorem gw_903 : Cond.code ⟨"KeypadWriterModel", "candidate", "(I)I"⟩ prog_11_method_27_code 2 (Option.some FieldType.int) ∈ gx_G := gx_c4 _ (List.mem_of_getElem? (i := 183) rfl) rfl
theorem gw_904 : Cond.methodLink "KeypadWriterModel" 85 ⟨"KeypadWriterModel", "candidates", "()I"⟩ ∈ gx_G := gx_c4 _ (List.mem_of_getElem? (i := 184) rfl) rfl
theorem gw_906 : Cond.instanceMethod ⟨"KeypadWriterModel", "candidates", "()I"⟩ ∈ gx_G := gx_c4 _ (List.mem_of_getElem? (i := 186) rfl) rfl
theorem gw_907 : Cond.code ⟨"KeypadWriterModel", "candidates", "()I"⟩ prog_11_method_25_code 3 (Option.some FieldType.int) ∈ gx_G := gx_c4 _ (List.mem_of_getElem? (i := 187) rfl) rfl
theorem gw_908 : Cond.methodLink "KeypadWriterModel" 82 ⟨"KeypadWriterModel", "groupOf", "(I)I"⟩ ∈ gx_G := gx_c4 _ (List.mem_of_getElem? (i := 188) rfl) rfl
theorem gw_910 : Cond.instanceMethod ⟨"KeypadWriterModel", "groupOf", "(I)I"⟩ ∈ gx_G := gx_c4 _ (List.mem_of_getElem? (i := 190) rfl) rfl
theorem gw_911 : Cond.code ⟨"KeypadWriterModel", "groupOf", "(I)I"⟩ prog_11_method_24_code 5 (Option.some FieldType.int) ∈ gx_G := gx_c4 _ (List.mem_of_getElem? (i := 191) rfl) rfl
theorem gw_912 : Cond.methodLink "KeypadWriterModel" 79 ⟨"KeypadWriterModel", "fits", "(II)Z"⟩ ∈ gx_G := gx_c4 _ (List.mem_of_getElem? (i := 192) rfl) rfl
theorem gw_914 : Cond.instanceMethod ⟨"KeypadWriterModel", "fits", "(II)Z"⟩ ∈ gx_G := gx_c4 _ (List.mem_of_getElem? (i := 194) rfl) rfl
theorem gw_915 : Cond.code ⟨"KeypadWriterModel", "fits", "(II)Z"⟩ prog_11_method_23_code 5 (Option.some FieldType.boolean) ∈ gx_G := gx_c4 _ (List.mem_of_getElem? (i := 195) rfl) rfl
theorem gw_916 : Cond.methodLink "KeypadWriterModel" 32 ⟨"KeypadWriterModel", "keyOf", "(I)I"⟩ ∈ gx_G := gx_c4 _ (List.mem_of_getElem? (i := 196) rfl) rfl
theorem gw_917 : Cond.static ⟨"KeypadWriterModel", "keyOf", "(I)I"⟩ ∈ gx_G := gx_c4 _ (List.mem_of_getElem? (i := 197) rfl) rfl
theorem gw_918 : Cond.code ⟨"KeypadWriterModel", "keyOf", "(I)I"⟩ prog_11_method_8_code 1 (Option.some FieldType.int) ∈ gx_G := gx_c4 _ (List.mem_of_getElem? (i := 198) rfl) rfl
theorem gw_919 : Cond.methodLink "KeypadWriterModel" 89 ⟨"KeypadWriterModel", "candidateAt", "(I)I"⟩ ∈ gx_G := gx_c4 _ (List.mem_of_getElem? (i := 199) rfl) rfl
theorem gw_921 : Cond.instanceMethod ⟨"KeypadWriterModel", "candidateAt", "(I)I"⟩ ∈ gx_G := gx_c4 _ (List.mem_of_getElem? (i := 201) rfl) rfl
theorem gw_922 : Cond.code ⟨"KeypadWriterModel", "candidateAt", "(I)I"⟩ prog_11_method_26_code 7 (Option.some FieldType.int) ∈ gx_G := gx_c4 _ (List.mem_of_getElem? (i := 202) rfl) rfl
theorem gw_923 : Cond.methodLink "KeypadWriterLaw" 98 ⟨"KeypadWriterModel", "setWays", "(ZI)I"⟩ ∈ gx_G := gx_c4 _ (List.mem_of_getElem? (i := 203) rfl) rfl
theorem gw_924 : Cond.instanceMethod ⟨"KeypadWriterModel", "setWays", "(ZI)I"⟩ ∈ gx_G := gx_c4 _ (List.mem_of_getElem? (i := 204) rfl) rfl
theorem gw_925 : Cond.selects "KeypadWriterModel" ⟨"KeypadWriterModel", "setWays", "(ZI)I"⟩ ⟨"KeypadWriterModel", "setWays", "(ZI)I"⟩ ∈ gx_G := gx_c4 _ (List.mem_of_getElem? (i := 205) rfl) rfl
theorem gw_926 : Cond.code ⟨"KeypadWriterModel", "setWays", "(ZI)I"⟩ prog_11_method_29_code 4 (Option.some FieldType.int) ∈ gx_G := gx_c4 _ (List.mem_of_getElem? (i := 206) rfl) rfl
theorem gw_927 : Cond.constantLong "KeypadWriterModel" 95 (50 : Int64) ∈ gx_G := gx_c4 _ (List.mem_of_getElem? (i := 207) rfl) rfl
theorem gw_928 : Cond.methodLink "KeypadWriterModel" 97 ⟨"KeypadWriterModel", "save", "()V"⟩ ∈ gx_G := gx_c4 _ (List.mem_of_getElem? (i := 208) rfl) rfl
theorem gw_930 : Cond.instanceMethod ⟨"KeypadWriterModel", "save", "()V"⟩ ∈ gx_G := gx_c4 _ (List.mem_of_getElem? (i := 210) rfl) rfl
theorem gw_931 : Cond.code ⟨"KeypadWriterModel", "save", "()V"⟩ prog_11_method_5_code 2 none ∈ gx_G := gx_c4 _ (List.mem_of_getElem? (i := 211) rfl) rfl
theorem gw_932 : Cond.methodLink "KeypadWriterLaw" 108 ⟨"KeypadWriterModel", "press", "(I)I"⟩ ∈ gx_G := gx_c4 _ (List.mem_of_getElem? (i := 212) rfl) rfl
theorem gw_933 : Cond.instanceMethod ⟨"KeypadWriterModel", "press", "(I)I"⟩ ∈ gx_G := gx_c4 _ (List.mem_of_getElem? (i := 213) rfl) rfl
theorem gw_934 : Cond.selects "KeypadWriterModel" ⟨"KeypadWriterModel", "press", "(I)I"⟩ ⟨"KeypadWriterModel", "press", "(I)I"⟩ ∈ gx_G := gx_c4 _ (List.mem_of_getElem? (i := 214) rfl) rfl
theorem gw_935 : Cond.code ⟨"KeypadWriterModel", "press", "(I)I"⟩ prog_11_method_30_code 4 (Option.some FieldType.int) ∈ gx_G := gx_c4 _ (List.mem_of_getElem? (i := 215) rfl) rfl
theorem gw_936 : Cond.constantLong "KeypadWriterModel" 100 (2 : Int64) ∈ gx_G := gx_c4 _ (List.mem_of_getElem? (i := 216) rfl) rfl
theorem gw_937 : Cond.constantLong "KeypadWriterModel" 102 (9 : Int64) ∈ gx_G := gx_c4 _ (List.mem_of_getElem? (i := 217) rfl) rfl
theorem gw_938 : Cond.methodLink "KeypadWriterModel" 104 ⟨"KeypadWriterModel", "nextOn", "(I)I"⟩ ∈ gx_G := gx_c4 _ (List.mem_of_getElem? (i := 218) rfl) rfl
theorem gw_939 : Cond.static ⟨"KeypadWriterModel", "nextOn", "(I)I"⟩ ∈ gx_G := gx_c4 _ (List.mem_of_getElem? (i := 219) rfl) rfl
theorem gw_940 : Cond.code ⟨"KeypadWriterModel", "nextOn", "(I)I"⟩ prog_11_method_11_code 2 (Option.some FieldType.int) ∈ gx_G := gx_c4 _ (List.mem_of_getElem? (i := 220) rfl) rfl
theorem gw_941 : Cond.methodLink "KeypadWriterModel" 36 ⟨"KeypadWriterModel", "firstOf", "(I)I"⟩ ∈ gx_G := gx_c4 _ (List.mem_of_getElem? (i := 221) rfl) rfl
theorem gw_942 : Cond.static ⟨"KeypadWriterModel", "firstOf", "(I)I"⟩ ∈ gx_G := gx_c4 _ (List.mem_of_getElem? (i := 222) rfl) rfl
theorem gw_943 : Cond.code ⟨"KeypadWriterModel", "firstOf", "(I)I"⟩ prog_11_method_9_code 1 (Option.some FieldType.int) ∈ gx_G := gx_c4 _ (List.mem_of_getElem? (i := 223) rfl) rfl
theorem gw_944 : Cond.methodLink "KeypadWriterModel" 39 ⟨"KeypadWriterModel", "lettersOn", "(I)I"⟩ ∈ gx_G := gx_c4 _ (List.mem_of_getElem? (i := 224) rfl) rfl
theorem gw_945 : Cond.static ⟨"KeypadWriterModel", "lettersOn", "(I)I"⟩ ∈ gx_G := gx_c4 _ (List.mem_of_getElem? (i := 225) rfl) rfl
theorem gw_946 : Cond.code ⟨"KeypadWriterModel", "lettersOn", "(I)I"⟩ prog_11_method_10_code 1 (Option.some FieldType.int) ∈ gx_G := gx_c4 _ (List.mem_of_getElem? (i := 226) rfl) rfl
theorem gw_947 : Cond.methodLink "KeypadWriterLaw" 112 ⟨"KeypadWriterModel", "pause", "()I"⟩ ∈ gx_G := gx_c4 _ (List.mem_of_getElem? (i := 227) rfl) rfl
theorem gw_948 : Cond.instanceMethod ⟨"KeypadWriterModel", "pause", "()I"⟩ ∈ gx_G := gx_c4 _ (List.mem_of_getElem? (i := 228) rfl) rfl
theorem gw_949 : Cond.selects "KeypadWriterModel" ⟨"KeypadWriterModel", "pause", "()I"⟩ ⟨"KeypadWriterModel", "pause", "()I"⟩ ∈ gx_G := gx_c4 _ (List.mem_of_getElem? (i := 229) rfl) rfl
theorem gw_950 : Cond.code ⟨"KeypadWriterModel", "pause", "()I"⟩ prog_11_method_31_code 2 (Option.some FieldType.int) ∈ gx_G := gx_c4 _ (List.mem_of_getElem? (i := 230) rfl) rfl
theorem gw_951 : Cond.methodLink "KeypadWriterLaw" 117 ⟨"KeypadWriterModel", "mode", "(Z)I"⟩ ∈ gx_G := gx_c4 _ (List.mem_of_getElem? (i := 231) rfl) rfl
theorem gw_952 : Cond.instanceMethod ⟨"KeypadWriterModel", "mode", "(Z)I"⟩ ∈ gx_G := gx_c4 _ (List.mem_of_getElem? (i := 232) rfl) rfl
theorem gw_953 : Cond.selects "KeypadWriterModel" ⟨"KeypadWriterModel", "mode", "(Z)I"⟩ ⟨"KeypadWriterModel", "mode", "(Z)I"⟩ ∈ gx_G := gx_c4 _ (List.mem_of_getElem? (i := 233) rfl) rfl
theorem gw_954 : Cond.code ⟨"KeypadWriterModel", "mode", "(Z)I"⟩ prog_11_method_32_code 3 (Option.some FieldType.int) ∈ gx_G := gx_c4 _ (List.mem_of_getElem? (i := 234) rfl) rfl
theorem gw_955 : Cond.methodLink "KeypadWriterModel" 107 ⟨"KeypadWriterModel", "laysDisplay", "()V"⟩ ∈ gx_G := gx_c4 _ (List.mem_of_getElem? (i := 235) rfl) rfl
theorem gw_957 : Cond.instanceMethod ⟨"KeypadWriterModel", "laysDisplay", "()V"⟩ ∈ gx_G := gx_c4 _ (List.mem_of_getElem? (i := 237) rfl) rfl
theorem gw_958 : Cond.code ⟨"KeypadWriterModel", "laysDisplay", "()V"⟩ prog_11_method_28_code 5 none ∈ gx_G := gx_c4 _ (List.mem_of_getElem? (i := 238) rfl) rfl
theorem gw_959 : Cond.methodLink "KeypadWriterLaw" 121 ⟨"KeypadWriterModel", "next", "()I"⟩ ∈ gx_G := gx_c4 _ (List.mem_of_getElem? (i := 239) rfl) rfl
theorem gw_960 : Cond.instanceMethod ⟨"KeypadWriterModel", "next", "()I"⟩ ∈ gx_G := gx_c5 _ (List.mem_of_getElem? (i := 0) rfl) rfl
theorem gw_961 : Cond.selects "KeypadWriterModel" ⟨"KeypadWriterModel", "next", "()I"⟩ ⟨"KeypadWriterModel", "next", "()I"⟩ ∈ gx_G := gx_c5 _ (List.mem_of_getElem? (i := 1) rfl) rfl
theorem gw_962 : Cond.code ⟨"KeypadWriterModel", "next", "()I"⟩ prog_11_method_33_code 2 (Option.some FieldType.int) ∈ gx_G := gx_c5 _ (List.mem_of_getElem? (i := 2) rfl) rfl
theorem gw_963 : Cond.methodLink "KeypadWriterLaw" 124 ⟨"KeypadWriterModel", "erase", "()I"⟩ ∈ gx_G := gx_c5 _ (List.mem_of_getElem? (i := 3) rfl) rfl
theorem gw_964 : Cond.instanceMethod ⟨"KeypadWriterModel", "erase", "()I"⟩ ∈ gx_G := gx_c5 _ (List.mem_of_getElem? (i := 4) rfl) rfl
theorem gw_965 : Cond.selects "KeypadWriterModel" ⟨"KeypadWriterModel", "erase", "()I"⟩ ⟨"KeypadWriterModel", "erase", "()I"⟩ ∈ gx_G := gx_c5 _ (List.mem_of_getElem? (i := 5) rfl) rfl
theorem gw_966 : Cond.code ⟨"KeypadWriterModel", "erase", "()I"⟩ prog_11_method_35_code 1 (Option.some FieldType.int) ∈ gx_G := gx_c5 _ (List.mem_of_getElem? (i := 6) rfl) rfl
theorem gw_967 : Cond.methodLink "KeypadWriterModel" 110 ⟨"KeypadWriterModel", "goesFromText", "(I)V"⟩ ∈ gx_G := gx_c5 _ (List.mem_of_getElem? (i := 7) rfl) rfl
theorem gw_969 : Cond.instanceMethod ⟨"KeypadWriterModel", "goesFromText", "(I)V"⟩ ∈ gx_G := gx_c5 _ (List.mem_of_getElem? (i := 9) rfl) rfl
theorem gw_970 : Cond.code ⟨"KeypadWriterModel", "goesFromText", "(I)V"⟩ prog_11_method_34_code 3 none ∈ gx_G := gx_c5 _ (List.mem_of_getElem? (i := 10) rfl) rfl
theorem gw_971 : Cond.methodLink "KeypadWriterLaw" 127 ⟨"KeypadWriterModel", "accept", "()I"⟩ ∈ gx_G := gx_c5 _ (List.mem_of_getElem? (i := 11) rfl) rfl
theorem gw_972 : Cond.instanceMethod ⟨"KeypadWriterModel", "accept", "()I"⟩ ∈ gx_G := gx_c5 _ (List.mem_of_getElem? (i := 12) rfl) rfl
theorem gw_973 : Cond.selects "KeypadWriterModel" ⟨"KeypadWriterModel", "accept", "()I"⟩ ⟨"KeypadWriterModel", "accept", "()I"⟩ ∈ gx_G := gx_c5 _ (List.mem_of_getElem? (i := 13) rfl) rfl
theorem gw_974 : Cond.code ⟨"KeypadWriterModel", "accept", "()I"⟩ prog_11_method_42_code 4 (Option.some FieldType.int) ∈ gx_G := gx_c5 _ (List.mem_of_getElem? (i := 14) rfl) rfl
theorem gw_975 : Cond.methodLink "KeypadWriterModel" 132 ⟨"KeypadWriterModel", "uses", "()V"⟩ ∈ gx_G := gx_c5 _ (List.mem_of_getElem? (i := 15) rfl) rfl
theorem gw_977 : Cond.instanceMethod ⟨"KeypadWriterModel", "uses", "()V"⟩ ∈ gx_G := gx_c5 _ (List.mem_of_getElem? (i := 17) rfl) rfl
theorem gw_978 : Cond.code ⟨"KeypadWriterModel", "uses", "()V"⟩ prog_11_method_41_code 3 none ∈ gx_G := gx_c5 _ (List.mem_of_getElem? (i := 18) rfl) rfl
theorem gw_979 : Cond.methodLink "KeypadWriterModel" 123 ⟨"KeypadWriterModel", "shownWord", "()I"⟩ ∈ gx_G := gx_c5 _ (List.mem_of_getElem? (i := 19) rfl) rfl
theorem gw_981 : Cond.instanceMethod ⟨"KeypadWriterModel", "shownWord", "()I"⟩ ∈ gx_G := gx_c5 _ (List.mem_of_getElem? (i := 21) rfl) rfl
theorem gw_982 : Cond.code ⟨"KeypadWriterModel", "shownWord", "()I"⟩ prog_11_method_37_code 3 (Option.some FieldType.int) ∈ gx_G := gx_c5 _ (List.mem_of_getElem? (i := 22) rfl) rfl
theorem gw_983 : Cond.methodLink "KeypadWriterModel" 114 ⟨"KeypadWriterModel", "isShown", "(I)Z"⟩ ∈ gx_G := gx_c5 _ (List.mem_of_getElem? (i := 23) rfl) rfl
theorem gw_985 : Cond.instanceMethod ⟨"KeypadWriterModel", "isShown", "(I)Z"⟩ ∈ gx_G := gx_c5 _ (List.mem_of_getElem? (i := 25) rfl) rfl
theorem gw_986 : Cond.code ⟨"KeypadWriterModel", "isShown", "(I)Z"⟩ prog_11_method_36_code 4 (Option.some FieldType.boolean) ∈ gx_G := gx_c5 _ (List.mem_of_getElem? (i := 26) rfl) rfl
theorem gw_987 : Cond.methodLink "KeypadWriterModel" 126 ⟨"KeypadWriterModel", "adds", "(I)V"⟩ ∈ gx_G := gx_c5 _ (List.mem_of_getElem? (i := 27) rfl) rfl
theorem gw_989 : Cond.instanceMethod ⟨"KeypadWriterModel", "adds", "(I)V"⟩ ∈ gx_G := gx_c5 _ (List.mem_of_getElem? (i := 29) rfl) rfl
theorem gw_990 : Cond.code ⟨"KeypadWriterModel", "adds", "(I)V"⟩ prog_11_method_39_code 5 none ∈ gx_G := gx_c5 _ (List.mem_of_getElem? (i := 30) rfl) rfl
theorem gw_991 : Cond.methodLink "KeypadWriterModel" 117 ⟨"KeypadWriterModel", "lowestAdded", "()I"⟩ ∈ gx_G := gx_c5 _ (List.mem_of_getElem? (i := 31) rfl) rfl
theorem gw_993 : Cond.instanceMethod ⟨"KeypadWriterModel", "lowestAdded", "()I"⟩ ∈ gx_G := gx_c5 _ (List.mem_of_getElem? (i := 33) rfl) rfl
theorem gw_994 : Cond.code ⟨"KeypadWriterModel", "lowestAdded", "()I"⟩ prog_11_method_38_code 4 (Option.some FieldType.int) ∈ gx_G := gx_c5 _ (List.mem_of_getElem? (i := 34) rfl) rfl
theorem gw_995 : Cond.methodLink "KeypadWriterModel" 120 ⟨"KeypadWriterModel", "leaves", "(I)V"⟩ ∈ gx_G := gx_c5 _ (List.mem_of_getElem? (i := 35) rfl) rfl
theorem gw_997 : Cond.instanceMethod ⟨"KeypadWriterModel", "leaves", "(I)V"⟩ ∈ gx_G := gx_c5 _ (List.mem_of_getElem? (i := 37) rfl) rfl
theorem gw_998 : Cond.code ⟨"KeypadWriterModel", "leaves", "(I)V"⟩ prog_11_method_22_code 3 none ∈ gx_G := gx_c5 _ (List.mem_of_getElem? (i := 38) rfl) rfl
theorem gw_999 : Cond.methodLink "KeypadWriterModel" 129 ⟨"KeypadWriterModel", "ages", "()V"⟩ ∈ gx_G := gx_c5 _ (List.mem_of_getElem? (i := 39) rfl) rfl
theorem gw_1001 : Cond.instanceMethod ⟨"KeypadWriterModel", "ages", "()V"⟩ ∈ gx_G := gx_c5 _ (List.mem_of_getElem? (i := 41) rfl) rfl
theorem gw_1002 : Cond.code ⟨"KeypadWriterModel", "ages", "()V"⟩ prog_11_method_40_code 2 none ∈ gx_G := gx_c5 _ (List.mem_of_getElem? (i := 42) rfl) rfl
theorem gw_1003 : Cond.methodLink "KeypadWriterLaw" 130 ⟨"KeypadWriterModel", "open", "(I)I"⟩ ∈ gx_G := gx_c5 _ (List.mem_of_getElem? (i := 43) rfl) rfl
theorem gw_1004 : Cond.instanceMethod ⟨"KeypadWriterModel", "open", "(I)I"⟩ ∈ gx_G := gx_c5 _ (List.mem_of_getElem? (i := 44) rfl) rfl
theorem gw_1005 : Cond.selects "KeypadWriterModel" ⟨"KeypadWriterModel", "open", "(I)I"⟩ ⟨"KeypadWriterModel", "open", "(I)I"⟩ ∈ gx_G := gx_c5 _ (List.mem_of_getElem? (i := 45) rfl) rfl
theorem gw_1006 : Cond.code ⟨"KeypadWriterModel", "open", "(I)I"⟩ prog_11_method_43_code 4 (Option.some FieldType.int) ∈ gx_G := gx_c5 _ (List.mem_of_getElem? (i := 46) rfl) rfl
theorem gw_1007 : Cond.methodLink "KeypadWriterLaw" 133 ⟨"KeypadWriterModel", "setting", "(I)I"⟩ ∈ gx_G := gx_c5 _ (List.mem_of_getElem? (i := 47) rfl) rfl
theorem gw_1008 : Cond.instanceMethod ⟨"KeypadWriterModel", "setting", "(I)I"⟩ ∈ gx_G := gx_c5 _ (List.mem_of_getElem? (i := 48) rfl) rfl
theorem gw_1009 : Cond.selects "KeypadWriterModel" ⟨"KeypadWriterModel", "setting", "(I)I"⟩ ⟨"KeypadWriterModel", "setting", "(I)I"⟩ ∈ gx_G := gx_c5 _ (List.mem_of_getElem? (i := 49) rfl) rfl
theorem gw_1010 : Cond.code ⟨"KeypadWriterModel", "setting", "(I)I"⟩ prog_11_method_45_code 2 (Option.some FieldType.int) ∈ gx_G := gx_c5 _ (List.mem_of_getElem? (i := 50) rfl) rfl
theorem gw_1011 : Cond.constantLong "KeypadWriterModel" 135 (10 : Int64) ∈ gx_G := gx_c5 _ (List.mem_of_getElem? (i := 51) rfl) rfl
theorem gw_1012 : Cond.methodLink "KeypadWriterModel" 137 ⟨"KeypadWriterModel", "settingOf", "(I)I"⟩ ∈ gx_G := gx_c5 _ (List.mem_of_getElem? (i := 52) rfl) rfl
theorem gw_1014 : Cond.instanceMethod ⟨"KeypadWriterModel", "settingOf", "(I)I"⟩ ∈ gx_G := gx_c5 _ (List.mem_of_getElem? (i := 54) rfl) rfl
theorem gw_1015 : Cond.code ⟨"KeypadWriterModel", "settingOf", "(I)I"⟩ prog_11_method_44_code 2 (Option.some FieldType.int) ∈ gx_G := gx_c5 _ (List.mem_of_getElem? (i := 55) rfl) rfl
theorem gw_1016 : Cond.methodLink "KeypadWriterLaw" 136 ⟨"KeypadWriterModel", "place", "(I)I"⟩ ∈ gx_G := gx_c5 _ (List.mem_of_getElem? (i := 56) rfl) rfl
theorem gw_1017 : Cond.instanceMethod ⟨"KeypadWriterModel", "place", "(I)I"⟩ ∈ gx_G := gx_c5 _ (List.mem_of_getElem? (i := 57) rfl) rfl
theorem gw_1018 : Cond.selects "KeypadWriterModel" ⟨"KeypadWriterModel", "place", "(I)I"⟩ ⟨"KeypadWriterModel", "place", "(I)I"⟩ ∈ gx_G := gx_c5 _ (List.mem_of_getElem? (i := 58) rfl) rfl
theorem gw_1019 : Cond.code ⟨"KeypadWriterModel", "place", "(I)I"⟩ prog_11_method_46_code 2 (Option.some FieldType.int) ∈ gx_G := gx_c5 _ (List.mem_of_getElem? (i := 59) rfl) rfl
theorem gw_1020 : Cond.methodLink "KeypadWriterLaw" 139 ⟨"KeypadWriterModel", "display", "(I)I"⟩ ∈ gx_G := gx_c5 _ (List.mem_of_getElem? (i := 60) rfl) rfl
theorem gw_1021 : Cond.instanceMethod ⟨"KeypadWriterModel", "display", "(I)I"⟩ ∈ gx_G := gx_c5 _ (List.mem_of_getElem? (i := 61) rfl) rfl
theorem gw_1022 : Cond.selects "KeypadWriterModel" ⟨"KeypadWriterModel", "display", "(I)I"⟩ ⟨"KeypadWriterModel", "display", "(I)I"⟩ ∈ gx_G := gx_c5 _ (List.mem_of_getElem? (i := 62) rfl) rfl
theorem gw_1023 : Cond.code ⟨"KeypadWriterModel", "display", "(I)I"⟩ prog_11_method_47_code 2 (Option.some FieldType.int) ∈ gx_G := gx_c5 _ (List.mem_of_getElem? (i := 63) rfl) rfl
theorem gw_1024 : Cond.methodLink "KeypadWriterLaw" 145 ⟨"KeypadWriterModel", "written", "(II)I"⟩ ∈ gx_G := gx_c5 _ (List.mem_of_getElem? (i := 64) rfl) rfl
theorem gw_1025 : Cond.instanceMethod ⟨"KeypadWriterModel", "written", "(II)I"⟩ ∈ gx_G := gx_c5 _ (List.mem_of_getElem? (i := 65) rfl) rfl
theorem gw_1026 : Cond.selects "KeypadWriterModel" ⟨"KeypadWriterModel", "written", "(II)I"⟩ ⟨"KeypadWriterModel", "written", "(II)I"⟩ ∈ gx_G := gx_c5 _ (List.mem_of_getElem? (i := 66) rfl) rfl
theorem gw_1027 : Cond.code ⟨"KeypadWriterModel", "written", "(II)I"⟩ prog_11_method_48_code 5 (Option.some FieldType.int) ∈ gx_G := gx_c5 _ (List.mem_of_getElem? (i := 67) rfl) rfl
theorem gw_1028 : Cond.constantLong "KeypadWriterModel" 140 (-1 : Int64) ∈ gx_G := gx_c5 _ (List.mem_of_getElem? (i := 68) rfl) rfl
theorem gw_1029 : Cond.methodLink "KeypadWriterLaw" 148 ⟨"KeypadWriterModel", "steps", "(I)I"⟩ ∈ gx_G := gx_c5 _ (List.mem_of_getElem? (i := 69) rfl) rfl
theorem gw_1030 : Cond.instanceMethod ⟨"KeypadWriterModel", "steps", "(I)I"⟩ ∈ gx_G := gx_c5 _ (List.mem_of_getElem? (i := 70) rfl) rfl
theorem gw_1031 : Cond.selects "KeypadWriterModel" ⟨"KeypadWriterModel", "steps", "(I)I"⟩ ⟨"KeypadWriterModel", "steps", "(I)I"⟩ ∈ gx_G := gx_c5 _ (List.mem_of_getElem? (i := 71) rfl) rfl
theorem gw_1032 : Cond.code ⟨"KeypadWriterModel", "steps", "(I)I"⟩ prog_11_method_51_code 2 (Option.some FieldType.int) ∈ gx_G := gx_c5 _ (List.mem_of_getElem? (i := 72) rfl) rfl
theorem gw_1033 : Cond.methodLink "KeypadWriterModel" 145 ⟨"KeypadWriterModel", "stepsOf", "(I)I"⟩ ∈ gx_G := gx_c5 _ (List.mem_of_getElem? (i := 73) rfl) rfl
theorem gw_1035 : Cond.instanceMethod ⟨"KeypadWriterModel", "stepsOf", "(I)I"⟩ ∈ gx_G := gx_c5 _ (List.mem_of_getElem? (i := 75) rfl) rfl
theorem gw_1036 : Cond.code ⟨"KeypadWriterModel", "stepsOf", "(I)I"⟩ prog_11_method_50_code 4 (Option.some FieldType.int) ∈ gx_G := gx_c5 _ (List.mem_of_getElem? (i := 76) rfl) rfl
theorem gw_1037 : Cond.methodLink "KeypadWriterModel" 142 ⟨"KeypadWriterModel", "haveKeys", "(II)Z"⟩ ∈ gx_G := gx_c5 _ (List.mem_of_getElem? (i := 77) rfl) rfl
theorem gw_1039 : Cond.instanceMethod ⟨"KeypadWriterModel", "haveKeys", "(II)Z"⟩ ∈ gx_G := gx_c5 _ (List.mem_of_getElem? (i := 79) rfl) rfl
theorem gw_1040 : Cond.code ⟨"KeypadWriterModel", "haveKeys", "(II)Z"⟩ prog_11_method_49_code 5 (Option.some FieldType.boolean) ∈ gx_G := gx_c5 _ (List.mem_of_getElem? (i := 80) rfl) rfl
theorem gw_1041 : Cond.methodLink "KeypadWriterLaw" 152 ⟨"KeypadWriterModel", "presses", "(IZ)I"⟩ ∈ gx_G := gx_c5 _ (List.mem_of_getElem? (i := 81) rfl) rfl
theorem gw_1042 : Cond.instanceMethod ⟨"KeypadWriterModel", "presses", "(IZ)I"⟩ ∈ gx_G := gx_c5 _ (List.mem_of_getElem? (i := 82) rfl) rfl
theorem gw_1043 : Cond.selects "KeypadWriterModel" ⟨"KeypadWriterModel", "presses", "(IZ)I"⟩ ⟨"KeypadWriterModel", "presses", "(IZ)I"⟩ ∈ gx_G := gx_c5 _ (List.mem_of_getElem? (i := 83) rfl) rfl
theorem gw_1044 : Cond.code ⟨"KeypadWriterModel", "presses", "(IZ)I"⟩ prog_11_method_53_code 3 (Option.some FieldType.int) ∈ gx_G := gx_c5 _ (List.mem_of_getElem? (i := 84) rfl) rfl
theorem gw_1045 : Cond.methodLink "KeypadWriterModel" 148 ⟨"KeypadWriterModel", "pressesOf", "(IZ)I"⟩ ∈ gx_G := gx_c5 _ (List.mem_of_getElem? (i := 85) rfl) rfl
theorem gw_1047 : Cond.instanceMethod ⟨"KeypadWriterModel", "pressesOf", "(IZ)I"⟩ ∈ gx_G := gx_c5 _ (List.mem_of_getElem? (i := 87) rfl) rfl
theorem gw_1048 : Cond.code ⟨"KeypadWriterModel", "pressesOf", "(IZ)I"⟩ prog_11_method_52_code 7 (Option.some FieldType.int) ∈ gx_G := gx_c5 _ (List.mem_of_getElem? (i := 88) rfl) rfl
theorem gw_1049 : Cond.methodLink "KeypadWriterLaw" 156 ⟨"KeypadWriterModel", "clashing", "()I"⟩ ∈ gx_G := gx_c5 _ (List.mem_of_getElem? (i := 89) rfl) rfl
theorem gw_1050 : Cond.instanceMethod ⟨"KeypadWriterModel", "clashing", "()I"⟩ ∈ gx_G := gx_c5 _ (List.mem_of_getElem? (i := 90) rfl) rfl
theorem gw_1051 : Cond.selects "KeypadWriterModel" ⟨"KeypadWriterModel", "clashing", "()I"⟩ ⟨"KeypadWriterModel", "clashing", "()I"⟩ ∈ gx_G := gx_c5 _ (List.mem_of_getElem? (i := 91) rfl) rfl
theorem gw_1052 : Cond.code ⟨"KeypadWriterModel", "clashing", "()I"⟩ prog_11_method_54_code 5 (Option.some FieldType.int) ∈ gx_G := gx_c5 _ (List.mem_of_getElem? (i := 92) rfl) rfl
theorem gw_1053 : Cond.methodLink "KeypadWriterLaw" 161 ⟨"KeypadWriterModel", "saving", "()D"⟩ ∈ gx_G := gx_c5 _ (List.mem_of_getElem? (i := 93) rfl) rfl
theorem gw_1054 : Cond.instanceMethod ⟨"KeypadWriterModel", "saving", "()D"⟩ ∈ gx_G := gx_c5 _ (List.mem_of_getElem? (i := 94) rfl) rfl
theorem gw_1055 : Cond.selects "KeypadWriterModel" ⟨"KeypadWriterModel", "saving", "()D"⟩ ⟨"KeypadWriterModel", "saving", "()D"⟩ ∈ gx_G := gx_c5 _ (List.mem_of_getElem? (i := 95) rfl) rfl
theorem gw_1056 : Cond.code ⟨"KeypadWriterModel", "saving", "()D"⟩ prog_11_method_55_code 5 (Option.some FieldType.double) ∈ gx_G := gx_c5 _ (List.mem_of_getElem? (i := 96) rfl) rfl
theorem gw_1057 : Cond.methodLink "KeypadWriterLaw" 164 ⟨"KeypadWriterModel", "shortest", "(I)I"⟩ ∈ gx_G := gx_c5 _ (List.mem_of_getElem? (i := 97) rfl) rfl
theorem gw_1058 : Cond.instanceMethod ⟨"KeypadWriterModel", "shortest", "(I)I"⟩ ∈ gx_G := gx_c5 _ (List.mem_of_getElem? (i := 98) rfl) rfl
theorem gw_1059 : Cond.selects "KeypadWriterModel" ⟨"KeypadWriterModel", "shortest", "(I)I"⟩ ⟨"KeypadWriterModel", "shortest", "(I)I"⟩ ∈ gx_G := gx_c5 _ (List.mem_of_getElem? (i := 99) rfl) rfl
theorem gw_1060 : Cond.code ⟨"KeypadWriterModel", "shortest", "(I)I"⟩ prog_11_method_57_code 3 (Option.some FieldType.int) ∈ gx_G := gx_c5 _ (List.mem_of_getElem? (i := 100) rfl) rfl
theorem gw_1061 : Cond.methodLink "KeypadWriterModel" 152 ⟨"KeypadWriterModel", "isFirst", "(II)Z"⟩ ∈ gx_G := gx_c5 _ (List.mem_of_getElem? (i := 101) rfl) rfl
theorem gw_1063 : Cond.instanceMethod ⟨"KeypadWriterModel", "isFirst", "(II)Z"⟩ ∈ gx_G := gx_c5 _ (List.mem_of_getElem? (i := 103) rfl) rfl
theorem gw_1064 : Cond.code ⟨"KeypadWriterModel", "isFirst", "(II)Z"⟩ prog_11_method_56_code 8 (Option.some FieldType.boolean) ∈ gx_G := gx_c5 _ (List.mem_of_getElem? (i := 104) rfl) rfl
theorem gw_1065 : Cond.methodLink "KeypadWriterLaw" 83 ⟨"KeypadWriterModel", "append", "(I)I"⟩ ∈ gx_G := gx_c5 _ (List.mem_of_getElem? (i := 105) rfl) rfl
theorem gw_1066 : Cond.instanceMethod ⟨"KeypadWriterModel", "append", "(I)I"⟩ ∈ gx_G := gx_c5 _ (List.mem_of_getElem? (i := 106) rfl) rfl
theorem gw_1067 : Cond.selects "KeypadWriterModel" ⟨"KeypadWriterModel", "append", "(I)I"⟩ ⟨"KeypadWriterModel", "append", "(I)I"⟩ ∈ gx_G := gx_c5 _ (List.mem_of_getElem? (i := 107) rfl) rfl
theorem gw_1068 : Cond.code ⟨"KeypadWriterModel", "append", "(I)I"⟩ prog_11_method_58_code 2 (Option.some FieldType.int) ∈ gx_G := gx_c5 _ (List.mem_of_getElem? (i := 108) rfl) rfl
theorem gw_1069 : Cond.constantLong "KeypadWriterModel" 155 (127 : Int64) ∈ gx_G := gx_c5 _ (List.mem_of_getElem? (i := 109) rfl) rfl
theorem gw_1070 : Cond.methodLink "KeypadWriterLaw" 90 ⟨"KeypadWriterModel", "clearText", "()I"⟩ ∈ gx_G := gx_c5 _ (List.mem_of_getElem? (i := 110) rfl) rfl
theorem gw_1071 : Cond.instanceMethod ⟨"KeypadWriterModel", "clearText", "()I"⟩ ∈ gx_G := gx_c5 _ (List.mem_of_getElem? (i := 111) rfl) rfl
theorem gw_1072 : Cond.selects "KeypadWriterModel" ⟨"KeypadWriterModel", "clearText", "()I"⟩ ⟨"KeypadWriterModel", "clearText", "()I"⟩ ∈ gx_G := gx_c5 _ (List.mem_of_getElem? (i := 112) rfl) rfl
theorem gw_1073 : Cond.code ⟨"KeypadWriterModel", "clearText", "()I"⟩ prog_11_method_59_code 2 (Option.some FieldType.int) ∈ gx_G := gx_c5 _ (List.mem_of_getElem? (i := 113) rfl) rfl
theorem gw_1074 : Cond.methodLink "KeypadWriterLaw" 94 ⟨"KeypadWriterModel", "load", "()I"⟩ ∈ gx_G := gx_c5 _ (List.mem_of_getElem? (i := 114) rfl) rfl
theorem gw_1075 : Cond.instanceMethod ⟨"KeypadWriterModel", "load", "()I"⟩ ∈ gx_G := gx_c5 _ (List.mem_of_getElem? (i := 115) rfl) rfl
theorem gw_1076 : Cond.selects "KeypadWriterModel" ⟨"KeypadWriterModel", "load", "()I"⟩ ⟨"KeypadWriterModel", "load", "()I"⟩ ∈ gx_G := gx_c5 _ (List.mem_of_getElem? (i := 116) rfl) rfl
theorem gw_1077 : Cond.code ⟨"KeypadWriterModel", "load", "()I"⟩ prog_11_method_64_code 3 (Option.some FieldType.int) ∈ gx_G := gx_c5 _ (List.mem_of_getElem? (i := 117) rfl) rfl
theorem gw_1078 : Cond.methodLink "KeypadWriterModel" 181 ⟨"KeypadWriterModel", "lays", "()V"⟩ ∈ gx_G := gx_c5 _ (List.mem_of_getElem? (i := 118) rfl) rfl
theorem gw_1080 : Cond.instanceMethod ⟨"KeypadWriterModel", "lays", "()V"⟩ ∈ gx_G := gx_c5 _ (List.mem_of_getElem? (i := 120) rfl) rfl
theorem gw_1081 : Cond.code ⟨"KeypadWriterModel", "lays", "()V"⟩ prog_11_method_6_code 2 none ∈ gx_G := gx_c5 _ (List.mem_of_getElem? (i := 121) rfl) rfl
theorem gw_1082 : Cond.methodLink "KeypadWriterModel" 184 ⟨"KeypadWriterModel", "readsItem", "()Z"⟩ ∈ gx_G := gx_c5 _ (List.mem_of_getElem? (i := 122) rfl) rfl
theorem gw_1084 : Cond.instanceMethod ⟨"KeypadWriterModel", "readsItem", "()Z"⟩ ∈ gx_G := gx_c5 _ (List.mem_of_getElem? (i := 124) rfl) rfl
theorem gw_1085 : Cond.code ⟨"KeypadWriterModel", "readsItem", "()Z"⟩ prog_11_method_63_code 3 (Option.some FieldType.boolean) ∈ gx_G := gx_c5 _ (List.mem_of_getElem? (i := 125) rfl) rfl
theorem gw_1086 : Cond.methodLink "KeypadWriterModel" 170 ⟨"KeypadWriterModel", "readsWord", "()Z"⟩ ∈ gx_G := gx_c5 _ (List.mem_of_getElem? (i := 126) rfl) rfl
theorem gw_1088 : Cond.instanceMethod ⟨"KeypadWriterModel", "readsWord", "()Z"⟩ ∈ gx_G := gx_c5 _ (List.mem_of_getElem? (i := 128) rfl) rfl
theorem gw_1089 : Cond.code ⟨"KeypadWriterModel", "readsWord", "()Z"⟩ prog_11_method_62_code 6 (Option.some FieldType.boolean) ∈ gx_G := gx_c5 _ (List.mem_of_getElem? (i := 129) rfl) rfl
theorem gw_1090 : Cond.methodLink "KeypadWriterModel" 163 ⟨"KeypadWriterModel", "here", "()I"⟩ ∈ gx_G := gx_c5 _ (List.mem_of_getElem? (i := 130) rfl) rfl
theorem gw_1092 : Cond.instanceMethod ⟨"KeypadWriterModel", "here", "()I"⟩ ∈ gx_G := gx_c5 _ (List.mem_of_getElem? (i := 132) rfl) rfl
theorem gw_1093 : Cond.code ⟨"KeypadWriterModel", "here", "()I"⟩ prog_11_method_60_code 1 (Option.some FieldType.int) ∈ gx_G := gx_c5 _ (List.mem_of_getElem? (i := 133) rfl) rfl
theorem gw_1094 : Cond.constantLong "KeypadWriterModel" 166 (97 : Int64) ∈ gx_G := gx_c5 _ (List.mem_of_getElem? (i := 134) rfl) rfl
theorem gw_1095 : Cond.constantLong "KeypadWriterModel" 168 (122 : Int64) ∈ gx_G := gx_c5 _ (List.mem_of_getElem? (i := 135) rfl) rfl
theorem gw_1096 : Cond.constantLong "KeypadWriterModel" 174 (48 : Int64) ∈ gx_G := gx_c5 _ (List.mem_of_getElem? (i := 136) rfl) rfl
theorem gw_1097 : Cond.constantLong "KeypadWriterModel" 176 (57 : Int64) ∈ gx_G := gx_c5 _ (List.mem_of_getElem? (i := 137) rfl) rfl
theorem gw_1098 : Cond.methodLink "KeypadWriterModel" 178 ⟨"KeypadWriterModel", "passesByte", "(I)Z"⟩ ∈ gx_G := gx_c5 _ (List.mem_of_getElem? (i := 138) rfl) rfl
theorem gw_1100 : Cond.instanceMethod ⟨"KeypadWriterModel", "passesByte", "(I)Z"⟩ ∈ gx_G := gx_c5 _ (List.mem_of_getElem? (i := 140) rfl) rfl
theorem gw_1101 : Cond.code ⟨"KeypadWriterModel", "passesByte", "(I)Z"⟩ prog_11_method_61_code 3 (Option.some FieldType.boolean) ∈ gx_G := gx_c5 _ (List.mem_of_getElem? (i := 141) rfl) rfl
theorem gw_1102 : Cond.methodLink "KeypadWriterModel" 187 ⟨"KeypadWriterModel", "takesBack", "()V"⟩ ∈ gx_G := gx_c5 _ (List.mem_of_getElem? (i := 142) rfl) rfl
theorem gw_1104 : Cond.instanceMethod ⟨"KeypadWriterModel", "takesBack", "()V"⟩ ∈ gx_G := gx_c5 _ (List.mem_of_getElem? (i := 144) rfl) rfl
theorem gw_1105 : Cond.code ⟨"KeypadWriterModel", "takesBack", "()V"⟩ prog_11_method_7_code 2 none ∈ gx_G := gx_c5 _ (List.mem_of_getElem? (i := 145) rfl) rfl
theorem gw_1106 : Cond.methodLink "KeypadWriterLaw" 167 ⟨"KeypadWriterModel", "undo", "()I"⟩ ∈ gx_G := gx_c5 _ (List.mem_of_getElem? (i := 146) rfl) rfl
theorem gw_1107 : Cond.instanceMethod ⟨"KeypadWriterModel", "undo", "()I"⟩ ∈ gx_G := gx_c5 _ (List.mem_of_getElem? (i := 147) rfl) rfl
theorem gw_1108 : Cond.selects "KeypadWriterModel" ⟨"KeypadWriterModel", "undo", "()I"⟩ ⟨"KeypadWriterModel", "undo", "()I"⟩ ∈ gx_G := gx_c5 _ (List.mem_of_getElem? (i := 148) rfl) rfl
theorem gw_1109 : Cond.code ⟨"KeypadWriterModel", "undo", "()I"⟩ prog_11_method_65_code 2 (Option.some FieldType.int) ∈ gx_G := gx_c5 _ (List.mem_of_getElem? (i := 149) rfl) rfl
theorem gw_1110 : Cond.methodLink "KeypadWriterLaw" 172 ⟨"KeypadWriterModel", "digest", "()J"⟩ ∈ gx_G := gx_c5 _ (List.mem_of_getElem? (i := 150) rfl) rfl
theorem gw_1111 : Cond.instanceMethod ⟨"KeypadWriterModel", "digest", "()J"⟩ ∈ gx_G := gx_c5 _ (List.mem_of_getElem? (i := 151) rfl) rfl
theorem gw_1112 : Cond.selects "KeypadWriterModel" ⟨"KeypadWriterModel", "digest", "()J"⟩ ⟨"KeypadWriterModel", "digest", "()J"⟩ ∈ gx_G := gx_c5 _ (List.mem_of_getElem? (i := 152) rfl) rfl
theorem gw_1113 : Cond.code ⟨"KeypadWriterModel", "digest", "()J"⟩ prog_11_method_68_code 6 (Option.some FieldType.long) ∈ gx_G := gx_c5 _ (List.mem_of_getElem? (i := 153) rfl) rfl
theorem gw_1114 : Cond.constantLong "KeypadWriterModel" 196 (3271 : Int64) ∈ gx_G := gx_c5 _ (List.mem_of_getElem? (i := 154) rfl) rfl
theorem gw_1115 : Cond.methodLink "KeypadWriterModel" 192 ⟨"KeypadWriterModel", "sums", "(JJ)J"⟩ ∈ gx_G := gx_c5 _ (List.mem_of_getElem? (i := 155) rfl) rfl
theorem gw_1116 : Cond.static ⟨"KeypadWriterModel", "sums", "(JJ)J"⟩ ∈ gx_G := gx_c5 _ (List.mem_of_getElem? (i := 156) rfl) rfl
theorem gw_1117 : Cond.code ⟨"KeypadWriterModel", "sums", "(JJ)J"⟩ prog_11_method_66_code 4 (Option.some FieldType.long) ∈ gx_G := gx_c5 _ (List.mem_of_getElem? (i := 157) rfl) rfl
theorem gw_1118 : Cond.constantLong "KeypadWriterModel" 190 (31 : Int64) ∈ gx_G := gx_c5 _ (List.mem_of_getElem? (i := 158) rfl) rfl
theorem gw_1119 : Cond.methodLink "KeypadWriterModel" 198 ⟨"KeypadWriterModel", "withWord", "(JI)J"⟩ ∈ gx_G := gx_c5 _ (List.mem_of_getElem? (i := 159) rfl) rfl
theorem gw_1121 : Cond.instanceMethod ⟨"KeypadWriterModel", "withWord", "(JI)J"⟩ ∈ gx_G := gx_c5 _ (List.mem_of_getElem? (i := 161) rfl) rfl
theorem gw_1122 : Cond.code ⟨"KeypadWriterModel", "withWord", "(JI)J"⟩ prog_11_method_67_code 7 (Option.some FieldType.long) ∈ gx_G := gx_c5 _ (List.mem_of_getElem? (i := 162) rfl) rfl
theorem gw_native_arraycopy : Cond.native arraycopyName ∈ gx_G := gw_302
theorem gw_static_arraycopy : Cond.static arraycopyName ∈ gx_G := gw_301
theorem gw_init_System : Cond.initialized "java/lang/System" ∈ gx_G := gw_16
/-- words that speak of nest mates and casts: they stay said while the machine warms up -/
theorem gx_n1 (w : Cond) (h : w ∈ tables_1_1) : w ∈ lw_tbl := List.mem_append_right _ (List.mem_append_left _ h)
theorem gx_n2 (w : Cond) (h : w ∈ tables_1_2) : w ∈ lw_tbl := List.mem_append_right _ (List.mem_append_right _ (List.mem_append_left _ h))
theorem gx_n3 (w : Cond) (h : w ∈ tables_1_3) : w ∈ lw_tbl := List.mem_append_right _ (List.mem_append_right _ (List.mem_append_right _ (List.mem_append_left _ h)))
theorem gx_n4 (w : Cond) (h : w ∈ tables_1_4) : w ∈ lw_tbl := List.mem_append_right _ (List.mem_append_right _ (List.mem_append_right _ (List.mem_append_right _ (List.mem_append_left _ h))))
theorem gx_n5 (w : Cond) (h : w ∈ tables_1_5) : w ∈ lw_tbl := List.mem_append_right _ (List.mem_append_right _ (List.mem_append_right _ (List.mem_append_right _ (List.mem_append_right _ (h)))))
def gx_nest : List Cond := [Cond.methodLinkNest "KeypadWriter" 9 ⟨"KeypadWriter$ListText", "<init>", "()V"⟩ "KeypadWriter", Cond.fieldLinkNest "KeypadWriter" 64 "KeypadWriter$ListText" "length" "I" "KeypadWriter", Cond.methodLinkNest "KeypadWriter" 18 ⟨"KeypadWriter$WordList", "<init>", "()V"⟩ "KeypadWriter", Cond.fieldLinkNest "KeypadWriter$Candidates" 29 "KeypadWriter$WordList" "size" "I" "KeypadWriter", Cond.fieldLinkNest "KeypadWriter" 89 "KeypadWriter$WordList" "size" "I" "KeypadWriter", Cond.methodLinkNest "KeypadWriter" 25 ⟨"KeypadWriter$State", "<init>", "()V"⟩ "KeypadWriter", Cond.methodLinkNest "KeypadWriter$State" 11 ⟨"KeypadWriter$WordList", "<init>", "()V"⟩ "KeypadWriter", Cond.methodLinkNest "KeypadWriter$State" 20 ⟨"KeypadWriter$WrittenText", "<init>", "()V"⟩ "KeypadWriter", Cond.fieldLinkNest "KeypadWriter" 186 "KeypadWriter$WrittenText" "size" "I" "KeypadWriter", Cond.fieldLinkNest "KeypadWriter$Candidates" 25 "KeypadWriter$State" "list" "LKeypadWriter$WordList;" "KeypadWriter", Cond.fieldLinkNest "KeypadWriter" 79 "KeypadWriter$State" "list" "LKeypadWriter$WordList;" "KeypadWriter", Cond.fieldLinkNest "KeypadWriter" 182 "KeypadWriter$State" "text" "LKeypadWriter$WrittenText;" "KeypadWriter", Cond.fieldLinkNest "KeypadWriter" 268 "KeypadWriter$State" "clock" "I" "KeypadWriter", Cond.fieldLinkNest "KeypadWriter" 94 "KeypadWriter$State" "ageing" "I" "KeypadWriter", Cond.fieldLinkNest "KeypadWriter$Candidates" 42 "KeypadWriter$State" "completing" "Z" "KeypadWriter", Cond.fieldLinkNest "KeypadWriter" 97 "KeypadWriter$State" "completing" "Z" "KeypadWriter", Cond.fieldLinkNest "KeypadWriter" 165 "KeypadWriter$State" "tapping" "Z" "KeypadWriter", Cond.fieldLinkNest "KeypadWriter" 138 "KeypadWriter$State" "pending" "I" "KeypadWriter", Cond.fieldLinkNest "KeypadWriter$Candidates" 46 "KeypadWriter$State" "present" "J" "KeypadWriter", Cond.fieldLinkNest "KeypadWriter" 161 "KeypadWriter$State" "present" "J" "KeypadWriter", Cond.fieldLinkNest "KeypadWriter" 86 "KeypadWriter$State" "chosen" "I" "KeypadWriter", Cond.fieldLinkNest "KeypadWriter" 179 "KeypadWriter$State" "opened" "I" "KeypadWriter", Cond.methodLinkNest "KeypadWriter$SavedStates" 17 ⟨"KeypadWriter$State", "<init>", "()V"⟩ "KeypadWriter", Cond.fieldLinkNest "KeypadWriter" 248 "KeypadWriter$SavedStates" "size" "I" "KeypadWriter", Cond.methodLinkNest "KeypadWriter" 39 ⟨"KeypadWriter$Candidates", "<init>", "()V"⟩ "KeypadWriter", Cond.fieldLinkNest "KeypadWriter" 171 "KeypadWriter$Candidates" "size" "I" "KeypadWriter", Cond.castable "java/lang/IllegalArgumentException" "java/lang/IllegalArgumentException", Cond.declares ⟨"java/lang/RuntimeException", "<init>", "()V"⟩, Cond.declares ⟨"java/lang/RuntimeException", "<init>", "(Ljava/lang/String;)V"⟩, Cond.declares ⟨"java/lang/Exception", "<init>", "()V"⟩, Cond.declares ⟨"java/lang/Exception", "<init>", "(Ljava/lang/String;)V"⟩, Cond.declares ⟨"java/lang/Throwable", "<init>", "()V"⟩, Cond.declares ⟨"java/lang/Throwable", "<init>", "(Ljava/lang/String;)V"⟩, Cond.castable "java/lang/IllegalStateException" "java/lang/IllegalStateException", Cond.castable "java/lang/IndexOutOfBoundsException" "java/lang/IndexOutOfBoundsException"]
theorem gx_nest_in : ∀ w ∈ gx_nest, w ∈ lw_tbl := List.forall_mem_cons.mpr ⟨gx_n1 _ (List.mem_of_getElem? (i := 29) rfl), List.forall_mem_cons.mpr ⟨gx_n1 _ (List.mem_of_getElem? (i := 35) rfl), List.forall_mem_cons.mpr ⟨gx_n1 _ (List.mem_of_getElem? (i := 47) rfl), List.forall_mem_cons.mpr ⟨gx_n1 _ (List.mem_of_getElem? (i := 57) rfl), List.forall_mem_cons.mpr ⟨gx_n1 _ (List.mem_of_getElem? (i := 58) rfl), List.forall_mem_cons.mpr ⟨gx_n1 _ (List.mem_of_getElem? (i := 76) rfl), List.forall_mem_cons.mpr ⟨gx_n1 _ (List.mem_of_getElem? (i := 81) rfl), List.forall_mem_cons.mpr ⟨gx_n1 _ (List.mem_of_getElem? (i := 84) rfl), List.forall_mem_cons.mpr ⟨gx_n1 _ (List.mem_of_getElem? (i := 90) rfl), List.forall_mem_cons.mpr ⟨gx_n1 _ (List.mem_of_getElem? (i := 97) rfl), List.forall_mem_cons.mpr ⟨gx_n1 _ (List.mem_of_getElem? (i := 98) rfl), List.forall_mem_cons.mpr ⟨gx_n1 _ (List.mem_of_getElem? (i := 100) rfl), List.forall_mem_cons.mpr ⟨gx_n1 _ (List.mem_of_getElem? (i := 102) rfl), List.forall_mem_cons.mpr ⟨gx_n1 _ (List.mem_of_getElem? (i := 104) rfl), List.forall_mem_cons.mpr ⟨gx_n1 _ (List.mem_of_getElem? (i := 106) rfl), List.forall_mem_cons.mpr ⟨gx_n1 _ (List.mem_of_getElem? (i := 107) rfl), List.forall_mem_cons.mpr ⟨gx_n1 _ (List.mem_of_getElem? (i := 109) rfl), List.forall_mem_cons.mpr ⟨gx_n1 _ (List.mem_of_getElem? (i := 111) rfl), List.forall_mem_cons.mpr ⟨gx_n1 _ (List.mem_of_getElem? (i := 113) rfl), List.forall_mem_cons.mpr ⟨gx_n1 _ (List.mem_of_getElem? (i := 114) rfl), List.forall_mem_cons.mpr ⟨gx_n1 _ (List.mem_of_getElem? (i := 116) rfl), List.forall_mem_cons.mpr ⟨gx_n1 _ (List.mem_of_getElem? (i := 118) rfl), List.forall_mem_cons.mpr ⟨gx_n1 _ (List.mem_of_getElem? (i := 148) rfl), List.forall_mem_cons.mpr ⟨gx_n1 _ (List.mem_of_getElem? (i := 151) rfl), List.forall_mem_cons.mpr ⟨gx_n1 _ (List.mem_of_getElem? (i := 159) rfl), List.forall_mem_cons.mpr ⟨gx_n1 _ (List.mem_of_getElem? (i := 165) rfl), List.forall_mem_cons.mpr ⟨gx_n3 _ (List.mem_of_getElem? (i := 11) rfl), List.forall_mem_cons.mpr ⟨gx_n3 _ (List.mem_of_getElem? (i := 12) rfl), List.forall_mem_cons.mpr ⟨gx_n3 _ (List.mem_of_getElem? (i := 13) rfl), List.forall_mem_cons.mpr ⟨gx_n3 _ (List.mem_of_getElem? (i := 14) rfl), List.forall_mem_cons.mpr ⟨gx_n3 _ (List.mem_of_getElem? (i := 15) rfl), List.forall_mem_cons.mpr ⟨gx_n3 _ (List.mem_of_getElem? (i := 16) rfl), List.forall_mem_cons.mpr ⟨gx_n3 _ (List.mem_of_getElem? (i := 17) rfl), List.forall_mem_cons.mpr ⟨gx_n3 _ (List.mem_of_getElem? (i := 83) rfl), List.forall_mem_cons.mpr ⟨gx_n3 _ (List.mem_of_getElem? (i := 121) rfl), fun _ h => absurd h List.not_mem_nil⟩⟩⟩⟩⟩⟩⟩⟩⟩⟩⟩⟩⟩⟩⟩⟩⟩⟩⟩⟩⟩⟩⟩⟩⟩⟩⟩⟩⟩⟩⟩⟩⟩⟩⟩
theorem gx_nest_on : ∀ w ∈ gx_nest, w.onTables = true := by decide +kernel
theorem gx_nest_warm {s U : State} (w : Cond) (hw : w ∈ gx_nest) (hW : s.WarmedH U.vm) (h : va_Nw w s) : va_Nw w U := (show ∀ w ∈ gx_nest, va_Nw w s → va_Nw w U from List.forall_mem_cons.mpr ⟨fun h => va_Nw.warmM hW h, List.forall_mem_cons.mpr ⟨fun h => va_Nw.warmF hW h, List.forall_mem_cons.mpr ⟨fun h => va_Nw.warmM hW h, List.forall_mem_cons.mpr ⟨fun h => va_Nw.warmF hW h, List.forall_mem_cons.mpr ⟨fun h => va_Nw.warmF hW h, List.forall_mem_cons.mpr ⟨fun h => va_Nw.warmM hW h, List.forall_mem_cons.mpr ⟨fun h => va_Nw.warmM hW h, List.forall_mem_cons.mpr ⟨fun h => va_Nw.warmM hW h, List.forall_mem_cons.mpr ⟨fun h => va_Nw.warmF hW h, List.forall_mem_cons.mpr ⟨fun h => va_Nw.warmF hW h, List.forall_mem_cons.mpr ⟨fun h => va_Nw.warmF hW h, List.forall_mem_cons.mpr ⟨fun h => va_Nw.warmF hW h, List.forall_mem_cons.mpr ⟨fun h => va_Nw.warmF hW h, List.forall_mem_cons.mpr ⟨fun h => va_Nw.warmF hW h, List.forall_mem_cons.mpr ⟨fun h => va_Nw.warmF hW h, List.forall_mem_cons.mpr ⟨fun h => va_Nw.warmF hW h, List.forall_mem_cons.mpr ⟨fun h => va_Nw.warmF hW h, List.forall_mem_cons.mpr ⟨fun h => va_Nw.warmF hW h, List.forall_mem_cons.mpr ⟨fun h => va_Nw.warmF hW h, List.forall_mem_cons.mpr ⟨fun h => va_Nw.warmF hW h, List.forall_mem_cons.mpr ⟨fun h => va_Nw.warmF hW h, List.forall_mem_cons.mpr ⟨fun h => va_Nw.warmF hW h, List.forall_mem_cons.mpr ⟨fun h => va_Nw.warmM hW h, List.forall_mem_cons.mpr ⟨fun h => va_Nw.warmF hW h, List.forall_mem_cons.mpr ⟨fun h => va_Nw.warmM hW h, List.forall_mem_cons.mpr ⟨fun h => va_Nw.warmF hW h, List.forall_mem_cons.mpr ⟨fun h => va_Nw.warmC hW h, List.forall_mem_cons.mpr ⟨fun h => va_Nw.warmD hW h, List.forall_mem_cons.mpr ⟨fun h => va_Nw.warmD hW h, List.forall_mem_cons.mpr ⟨fun h => va_Nw.warmD hW h, List.forall_mem_cons.mpr ⟨fun h => va_Nw.warmD hW h, List.forall_mem_cons.mpr ⟨fun h => va_Nw.warmD hW h, List.forall_mem_cons.mpr ⟨fun h => va_Nw.warmD hW h, List.forall_mem_cons.mpr ⟨fun h => va_Nw.warmC hW h, List.forall_mem_cons.mpr ⟨fun h => va_Nw.warmC hW h, fun _ h => absurd h List.not_mem_nil⟩⟩⟩⟩⟩⟩⟩⟩⟩⟩⟩⟩⟩⟩⟩⟩⟩⟩⟩⟩⟩⟩⟩⟩⟩⟩⟩⟩⟩⟩⟩⟩⟩⟩⟩) w hw h
theorem gx_nest0 {U : State} (h : ∀ w ∈ gx_nest, va_Nw w U) : va_Nw (Cond.methodLinkNest "KeypadWriter" 9 ⟨"KeypadWriter$ListText", "<init>", "()V"⟩ "KeypadWriter") U := h _ (List.mem_of_getElem? (i := 0) rfl)
theorem gx_nest1 {U : State} (h : ∀ w ∈ gx_nest, va_Nw w U) : va_Nw (Cond.fieldLinkNest "KeypadWriter" 64 "KeypadWriter$ListText" "length" "I" "KeypadWriter") U := h _ (List.mem_of_getElem? (i := 1) rfl)
theorem gx_nest2 {U : State} (h : ∀ w ∈ gx_nest, va_Nw w U) : va_Nw (Cond.methodLinkNest "KeypadWriter" 18 ⟨"KeypadWriter$WordList", "<init>", "()V"⟩ "KeypadWriter") U := h _ (List.mem_of_getElem? (i := 2) rfl)
theorem gx_nest3 {U : State} (h : ∀ w ∈ gx_nest, va_Nw w U) : va_Nw (Cond.fieldLinkNest "KeypadWriter$Candidates" 29 "KeypadWriter$WordList" "size" "I" "KeypadWriter") U := h _ (List.mem_of_getElem? (i := 3) rfl)
theorem gx_nest4 {U : State} (h : ∀ w ∈ gx_nest, va_Nw w U) : va_Nw (Cond.fieldLinkNest "KeypadWriter" 89 "KeypadWriter$WordList" "size" "I" "KeypadWriter") U := h _ (List.mem_of_getElem? (i := 4) rfl)
theorem gx_nest5 {U : State} (h : ∀ w ∈ gx_nest, va_Nw w U) : va_Nw (Cond.methodLinkNest "KeypadWriter" 25 ⟨"KeypadWriter$State", "<init>", "()V"⟩ "KeypadWriter") U := h _ (List.mem_of_getElem? (i := 5) rfl)
theorem gx_nest6 {U : State} (h : ∀ w ∈ gx_nest, va_Nw w U) : va_Nw (Cond.methodLinkNest "KeypadWriter$State" 11 ⟨"KeypadWriter$WordList", "<init>", "()V"⟩ "KeypadWriter") U := h _ (List.mem_of_getElem? (i := 6) rfl)
theorem gx_nest7 {U : State} (h : ∀ w ∈ gx_nest, va_Nw w U) : va_Nw (Cond.methodLinkNest "KeypadWriter$State" 20 ⟨"KeypadWriter$WrittenText", "<init>", "()V"⟩ "KeypadWriter") U := h _ (List.mem_of_getElem? (i := 7) rfl)
theorem gx_nest8 {U : State} (h : ∀ w ∈ gx_nest, va_Nw w U) : va_Nw (Cond.fieldLinkNest "KeypadWriter" 186 "KeypadWriter$WrittenText" "size" "I" "KeypadWriter") U := h _ (List.mem_of_getElem? (i := 8) rfl)
theorem gx_nest9 {U : State} (h : ∀ w ∈ gx_nest, va_Nw w U) : va_Nw (Cond.fieldLinkNest "KeypadWriter$Candidates" 25 "KeypadWriter$State" "list" "LKeypadWriter$WordList;" "KeypadWriter") U := h _ (List.mem_of_getElem? (i := 9) rfl)
theorem gx_nest10 {U : State} (h : ∀ w ∈ gx_nest, va_Nw w U) : va_Nw (Cond.fieldLinkNest "KeypadWriter" 79 "KeypadWriter$State" "list" "LKeypadWriter$WordList;" "KeypadWriter") U := h _ (List.mem_of_getElem? (i := 10) rfl)
theorem gx_nest11 {U : State} (h : ∀ w ∈ gx_nest, va_Nw w U) : va_Nw (Cond.fieldLinkNest "KeypadWriter" 182 "KeypadWriter$State" "text" "LKeypadWriter$WrittenText;" "KeypadWriter") U := h _ (List.mem_of_getElem? (i := 11) rfl)
theorem gx_nest12 {U : State} (h : ∀ w ∈ gx_nest, va_Nw w U) : va_Nw (Cond.fieldLinkNest "KeypadWriter" 268 "KeypadWriter$State" "clock" "I" "KeypadWriter") U := h _ (List.mem_of_getElem? (i := 12) rfl)
theorem gx_nest13 {U : State} (h : ∀ w ∈ gx_nest, va_Nw w U) : va_Nw (Cond.fieldLinkNest "KeypadWriter" 94 "KeypadWriter$State" "ageing" "I" "KeypadWriter") U := h _ (List.mem_of_getElem? (i := 13) rfl)
theorem gx_nest14 {U : State} (h : ∀ w ∈ gx_nest, va_Nw w U) : va_Nw (Cond.fieldLinkNest "KeypadWriter$Candidates" 42 "KeypadWriter$State" "completing" "Z" "KeypadWriter") U := h _ (List.mem_of_getElem? (i := 14) rfl)
theorem gx_nest15 {U : State} (h : ∀ w ∈ gx_nest, va_Nw w U) : va_Nw (Cond.fieldLinkNest "KeypadWriter" 97 "KeypadWriter$State" "completing" "Z" "KeypadWriter") U := h _ (List.mem_of_getElem? (i := 15) rfl)
theorem gx_nest16 {U : State} (h : ∀ w ∈ gx_nest, va_Nw w U) : va_Nw (Cond.fieldLinkNest "KeypadWriter" 165 "KeypadWriter$State" "tapping" "Z" "KeypadWriter") U := h _ (List.mem_of_getElem? (i := 16) rfl)
theorem gx_nest17 {U : State} (h : ∀ w ∈ gx_nest, va_Nw w U) : va_Nw (Cond.fieldLinkNest "KeypadWriter" 138 "KeypadWriter$State" "pending" "I" "KeypadWriter") U := h _ (List.mem_of_getElem? (i := 17) rfl)
theorem gx_nest18 {U : State} (h : ∀ w ∈ gx_nest, va_Nw w U) : va_Nw (Cond.fieldLinkNest "KeypadWriter$Candidates" 46 "KeypadWriter$State" "present" "J" "KeypadWriter") U := h _ (List.mem_of_getElem? (i := 18) rfl)
theorem gx_nest19 {U : State} (h : ∀ w ∈ gx_nest, va_Nw w U) : va_Nw (Cond.fieldLinkNest "KeypadWriter" 161 "KeypadWriter$State" "present" "J" "KeypadWriter") U := h _ (List.mem_of_getElem? (i := 19) rfl)
theorem gx_nest20 {U : State} (h : ∀ w ∈ gx_nest, va_Nw w U) : va_Nw (Cond.fieldLinkNest "KeypadWriter" 86 "KeypadWriter$State" "chosen" "I" "KeypadWriter") U := h _ (List.mem_of_getElem? (i := 20) rfl)
theorem gx_nest21 {U : State} (h : ∀ w ∈ gx_nest, va_Nw w U) : va_Nw (Cond.fieldLinkNest "KeypadWriter" 179 "KeypadWriter$State" "opened" "I" "KeypadWriter") U := h _ (List.mem_of_getElem? (i := 21) rfl)
theorem gx_nest22 {U : State} (h : ∀ w ∈ gx_nest, va_Nw w U) : va_Nw (Cond.methodLinkNest "KeypadWriter$SavedStates" 17 ⟨"KeypadWriter$State", "<init>", "()V"⟩ "KeypadWriter") U := h _ (List.mem_of_getElem? (i := 22) rfl)
theorem gx_nest23 {U : State} (h : ∀ w ∈ gx_nest, va_Nw w U) : va_Nw (Cond.fieldLinkNest "KeypadWriter" 248 "KeypadWriter$SavedStates" "size" "I" "KeypadWriter") U := h _ (List.mem_of_getElem? (i := 23) rfl)
theorem gx_nest24 {U : State} (h : ∀ w ∈ gx_nest, va_Nw w U) : va_Nw (Cond.methodLinkNest "KeypadWriter" 39 ⟨"KeypadWriter$Candidates", "<init>", "()V"⟩ "KeypadWriter") U := h _ (List.mem_of_getElem? (i := 24) rfl)
theorem gx_nest25 {U : State} (h : ∀ w ∈ gx_nest, va_Nw w U) : va_Nw (Cond.fieldLinkNest "KeypadWriter" 171 "KeypadWriter$Candidates" "size" "I" "KeypadWriter") U := h _ (List.mem_of_getElem? (i := 25) rfl)
theorem gx_nest26 {U : State} (h : ∀ w ∈ gx_nest, va_Nw w U) : va_Nw (Cond.castable "java/lang/IllegalArgumentException" "java/lang/IllegalArgumentException") U := h _ (List.mem_of_getElem? (i := 26) rfl)
theorem gx_nest27 {U : State} (h : ∀ w ∈ gx_nest, va_Nw w U) : va_Nw (Cond.declares ⟨"java/lang/RuntimeException", "<init>", "()V"⟩) U := h _ (List.mem_of_getElem? (i := 27) rfl)
theorem gx_nest28 {U : State} (h : ∀ w ∈ gx_nest, va_Nw w U) : va_Nw (Cond.declares ⟨"java/lang/RuntimeException", "<init>", "(Ljava/lang/String;)V"⟩) U := h _ (List.mem_of_getElem? (i := 28) rfl)
theorem gx_nest29 {U : State} (h : ∀ w ∈ gx_nest, va_Nw w U) : va_Nw (Cond.declares ⟨"java/lang/Exception", "<init>", "()V"⟩) U := h _ (List.mem_of_getElem? (i := 29) rfl)
theorem gx_nest30 {U : State} (h : ∀ w ∈ gx_nest, va_Nw w U) : va_Nw (Cond.declares ⟨"java/lang/Exception", "<init>", "(Ljava/lang/String;)V"⟩) U := h _ (List.mem_of_getElem? (i := 30) rfl)
theorem gx_nest31 {U : State} (h : ∀ w ∈ gx_nest, va_Nw w U) : va_Nw (Cond.declares ⟨"java/lang/Throwable", "<init>", "()V"⟩) U := h _ (List.mem_of_getElem? (i := 31) rfl)
theorem gx_nest32 {U : State} (h : ∀ w ∈ gx_nest, va_Nw w U) : va_Nw (Cond.declares ⟨"java/lang/Throwable", "<init>", "(Ljava/lang/String;)V"⟩) U := h _ (List.mem_of_getElem? (i := 32) rfl)
theorem gx_nest33 {U : State} (h : ∀ w ∈ gx_nest, va_Nw w U) : va_Nw (Cond.castable "java/lang/IllegalStateException" "java/lang/IllegalStateException") U := h _ (List.mem_of_getElem? (i := 33) rfl)
theorem gx_nest34 {U : State} (h : ∀ w ∈ gx_nest, va_Nw w U) : va_Nw (Cond.castable "java/lang/IndexOutOfBoundsException" "java/lang/IndexOutOfBoundsException") U := h _ (List.mem_of_getElem? (i := 34) rfl)
def gx_strs : List (Nat × String) := [(46, "a byte is 0 to 127"), (57, "the list text has 150 bytes"), (92, "the ageing is 1 to 50"), (107, "the list has no such word"), (110, "a word has the values 0 to 4"), (125, "the word has no such letter"), (136, "a key is 2 to 9"), (145, "the present word has 10 places"), (172, "there are no candidates"), (174, "the present word is empty"), (189, "the text has 30 words"), (196, "the text has no such word"), (198, "a word is being written"), (203, "there are the settings 0 to 10"), (209, "the present word has no such place"), (214, "an index is not negative"), (216, "there is no such candidate"), (249, "there is no saved state")]
