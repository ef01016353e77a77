def RX0 : String := "KeypadWriter$Candidates"
def TX0 : u_T := fun k => match k with
  | 0 => ("KeypadWriter$Candidates", "order", "[I", true)
  | _ => ("KeypadWriter$Candidates", "size", "I", false)
def tyX0 : Nat → FieldType := fun k => match k with
  | 0 => .array .int
  | _ => .int
abbrev wsX00 : List Cond := u_ws RX0 TX0 2
theorem nmX0 : ∀ a, a < 2 → ∀ b, b < 2 → a ≠ b → (TX0 a).2.1 ≠ (TX0 b).2.1 := by decide +kernel
theorem tyX0_ok : ∀ k, k < 2 → parseFieldDescriptor (TX0 k).2.2.1 = some (tyX0 k) := by decide +kernel
abbrev cX0_init : ByteArray := prog_2_method_1_code
def yX0_init : MethodName := ⟨RX0, "<init>", "()V"⟩
abbrev cX0_find : ByteArray := prog_2_method_2_code
def yX0_find : MethodName := ⟨RX0, "find", "(LKeypadWriter$State;)V"⟩
abbrev cX0_wordAt : ByteArray := prog_2_method_3_code
def yX0_wordAt : MethodName := ⟨RX0, "wordAt", "(I)I"⟩
abbrev cX0_insert : ByteArray := prog_2_method_4_code
def yX0_insert : MethodName := ⟨RX0, "insert", "(LKeypadWriter$WordList;II)V"⟩
abbrev cX0_firstWith : ByteArray := prog_2_method_5_code
def yX0_firstWith : MethodName := ⟨RX0, "firstWith", "(LKeypadWriter$WordList;J)I"⟩
abbrev cX0_comesBefore : ByteArray := prog_2_method_6_code
def yX0_comesBefore : MethodName := ⟨RX0, "comesBefore", "(LKeypadWriter$WordList;III)Z"⟩
def RX1 : String := "KeypadWriter$Keys"
def TX1 : u_T := fun k => match k with
  | _ => ("", "", "", false)
def tyX1 : Nat → FieldType := fun k => match k with
  | _ => .int
abbrev wsX10 : List Cond := u_ws RX1 TX1 0
theorem nmX1 : ∀ a, a < 0 → ∀ b, b < 0 → a ≠ b → (TX1 a).2.1 ≠ (TX1 b).2.1 := by decide +kernel
theorem tyX1_ok : ∀ k, k < 0 → parseFieldDescriptor (TX1 k).2.2.1 = some (tyX1 k) := by decide +kernel
abbrev cX1_isKey : ByteArray := prog_3_method_2_code
def yX1_isKey : MethodName := ⟨RX1, "isKey", "(I)Z"⟩
abbrev cX1_keyWith : ByteArray := prog_3_method_3_code
def yX1_keyWith : MethodName := ⟨RX1, "keyWith", "(I)I"⟩
abbrev cX1_firstLetter : ByteArray := prog_3_method_4_code
def yX1_firstLetter : MethodName := ⟨RX1, "firstLetter", "(I)I"⟩
abbrev cX1_letterBehind : ByteArray := prog_3_method_5_code
def yX1_letterBehind : MethodName := ⟨RX1, "letterBehind", "(I)I"⟩
abbrev cX1_tapsOf : ByteArray := prog_3_method_6_code
def yX1_tapsOf : MethodName := ⟨RX1, "tapsOf", "(I)I"⟩
def RX2 : String := "KeypadWriter$ListText"
def TX2 : u_T := fun k => match k with
  | 0 => ("KeypadWriter$ListText", "bytes", "[I", true)
  | 1 => ("KeypadWriter$ListText", "length", "I", false)
  | _ => ("KeypadWriter$ListText", "position", "I", false)
def tyX2 : Nat → FieldType := fun k => match k with
  | 0 => .array .int
  | 1 => .int
  | _ => .int
abbrev wsX20 : List Cond := u_ws RX2 TX2 3
theorem nmX2 : ∀ a, a < 3 → ∀ b, b < 3 → a ≠ b → (TX2 a).2.1 ≠ (TX2 b).2.1 := by decide +kernel
theorem tyX2_ok : ∀ k, k < 3 → parseFieldDescriptor (TX2 k).2.2.1 = some (tyX2 k) := by decide +kernel
abbrev cX2_init : ByteArray := prog_4_method_1_code
def yX2_init : MethodName := ⟨RX2, "<init>", "()V"⟩
abbrev cX2_isFull : ByteArray := prog_4_method_2_code
def yX2_isFull : MethodName := ⟨RX2, "isFull", "()Z"⟩
abbrev cX2_addByte : ByteArray := prog_4_method_4_code
def yX2_addByte : MethodName := ⟨RX2, "addByte", "(I)V"⟩
abbrev cX2_readInto : ByteArray := prog_4_method_5_code
def yX2_readInto : MethodName := ⟨RX2, "readInto", "(LKeypadWriter$WordList;)I"⟩
abbrev cX2_readItem : ByteArray := prog_4_method_6_code
def yX2_readItem : MethodName := ⟨RX2, "readItem", "(LKeypadWriter$WordList;)Z"⟩
abbrev cX2_readWord : ByteArray := prog_4_method_7_code
def yX2_readWord : MethodName := ⟨RX2, "readWord", "()J"⟩
abbrev cX2_readCount : ByteArray := prog_4_method_8_code
def yX2_readCount : MethodName := ⟨RX2, "readCount", "()I"⟩
abbrev cX2_isHere : ByteArray := prog_4_method_9_code
def yX2_isHere : MethodName := ⟨RX2, "isHere", "(II)Z"⟩
abbrev cX2_byteHere : ByteArray := prog_4_method_10_code
def yX2_byteHere : MethodName := ⟨RX2, "byteHere", "()I"⟩
def RX3 : String := "KeypadWriter$SavedStates"
def TX3 : u_T := fun k => match k with
  | 0 => ("KeypadWriter$SavedStates", "states", "[LKeypadWriter$State;", true)
  | _ => ("KeypadWriter$SavedStates", "size", "I", false)
def tyX3 : Nat → FieldType := fun k => match k with
  | 0 => .array (.object "KeypadWriter$State")
  | _ => .int
abbrev wsX30 : List Cond := u_ws RX3 TX3 2
theorem nmX3 : ∀ a, a < 2 → ∀ b, b < 2 → a ≠ b → (TX3 a).2.1 ≠ (TX3 b).2.1 := by decide +kernel
theorem tyX3_ok : ∀ k, k < 2 → parseFieldDescriptor (TX3 k).2.2.1 = some (tyX3 k) := by decide +kernel
abbrev cX3_init : ByteArray := prog_5_method_1_code
def yX3_init : MethodName := ⟨RX3, "<init>", "()V"⟩
abbrev cX3_push : ByteArray := prog_5_method_2_code
def yX3_push : MethodName := ⟨RX3, "push", "(LKeypadWriter$State;)V"⟩
abbrev cX3_popInto : ByteArray := prog_5_method_3_code
def yX3_popInto : MethodName := ⟨RX3, "popInto", "(LKeypadWriter$State;)V"⟩
abbrev cX3_stateAt : ByteArray := prog_5_method_4_code
def yX3_stateAt : MethodName := ⟨RX3, "stateAt", "(I)LKeypadWriter$State;"⟩
abbrev cX3_dropOldest : ByteArray := prog_5_method_5_code
def yX3_dropOldest : MethodName := ⟨RX3, "dropOldest", "()V"⟩
def RX4 : String := "KeypadWriter$Slots"
def TX4 : u_T := fun k => match k with
  | _ => ("", "", "", false)
def tyX4 : Nat → FieldType := fun k => match k with
  | _ => .int
abbrev wsX40 : List Cond := u_ws RX4 TX4 0
theorem nmX4 : ∀ a, a < 0 → ∀ b, b < 0 → a ≠ b → (TX4 a).2.1 ≠ (TX4 b).2.1 := by decide +kernel
theorem tyX4_ok : ∀ k, k < 0 → parseFieldDescriptor (TX4 k).2.2.1 = some (tyX4 k) := by decide +kernel
abbrev cX4_codeOfLetter : ByteArray := prog_6_method_2_code
def yX4_codeOfLetter : MethodName := ⟨RX4, "codeOfLetter", "(I)I"⟩
abbrev cX4_codeOfKey : ByteArray := prog_6_method_3_code
def yX4_codeOfKey : MethodName := ⟨RX4, "codeOfKey", "(I)I"⟩
abbrev cX4_isLetter : ByteArray := prog_6_method_4_code
def yX4_isLetter : MethodName := ⟨RX4, "isLetter", "(I)Z"⟩
abbrev cX4_letterOf : ByteArray := prog_6_method_5_code
def yX4_letterOf : MethodName := ⟨RX4, "letterOf", "(I)I"⟩
abbrev cX4_keyOf : ByteArray := prog_6_method_6_code
def yX4_keyOf : MethodName := ⟨RX4, "keyOf", "(I)I"⟩
abbrev cX4_codeAt : ByteArray := prog_6_method_7_code
def yX4_codeAt : MethodName := ⟨RX4, "codeAt", "(JI)I"⟩
abbrev cX4_letterAt : ByteArray := prog_6_method_8_code
def yX4_letterAt : MethodName := ⟨RX4, "letterAt", "(JI)I"⟩
abbrev cX4_has : ByteArray := prog_6_method_9_code
def yX4_has : MethodName := ⟨RX4, "has", "(JI)Z"⟩
abbrev cX4_lengthOf : ByteArray := prog_6_method_10_code
def yX4_lengthOf : MethodName := ⟨RX4, "lengthOf", "(J)I"⟩
abbrev cX4_with : ByteArray := prog_6_method_11_code
def yX4_with : MethodName := ⟨RX4, "with", "(JII)J"⟩
abbrev cX4_firstOf : ByteArray := prog_6_method_12_code
def yX4_firstOf : MethodName := ⟨RX4, "firstOf", "(JI)J"⟩
abbrev cX4_keysOf : ByteArray := prog_6_method_13_code
def yX4_keysOf : MethodName := ⟨RX4, "keysOf", "(J)J"⟩
abbrev cX4_firstLetters : ByteArray := prog_6_method_14_code
def yX4_firstLetters : MethodName := ⟨RX4, "firstLetters", "(J)J"⟩
def RX5 : String := "KeypadWriter$State"
def TX5 : u_T := fun k => match k with
  | 0 => ("KeypadWriter$State", "list", "LKeypadWriter$WordList;", true)
  | 1 => ("KeypadWriter$State", "text", "LKeypadWriter$WrittenText;", true)
  | 2 => ("KeypadWriter$State", "clock", "I", false)
  | 3 => ("KeypadWriter$State", "ageing", "I", false)
  | 4 => ("KeypadWriter$State", "completing", "Z", false)
  | 5 => ("KeypadWriter$State", "tapping", "Z", false)
  | 6 => ("KeypadWriter$State", "pending", "I", false)
  | 7 => ("KeypadWriter$State", "present", "J", false)
  | 8 => ("KeypadWriter$State", "chosen", "I", false)
  | _ => ("KeypadWriter$State", "opened", "I", false)
def tyX5 : Nat → FieldType := fun k => match k with
  | 0 => .object "KeypadWriter$WordList"
  | 1 => .object "KeypadWriter$WrittenText"
  | 2 => .int
  | 3 => .int
  | 4 => .boolean
  | 5 => .boolean
  | 6 => .int
  | 7 => .long
  | 8 => .int
  | _ => .int
abbrev wsX50 : List Cond := u_ws RX5 TX5 10
theorem nmX5 : ∀ a, a < 10 → ∀ b, b < 10 → a ≠ b → (TX5 a).2.1 ≠ (TX5 b).2.1 := by decide +kernel
theorem tyX5_ok : ∀ k, k < 10 → parseFieldDescriptor (TX5 k).2.2.1 = some (tyX5 k) := by decide +kernel
abbrev cX5_init : ByteArray := prog_7_method_1_code
def yX5_init : MethodName := ⟨RX5, "<init>", "()V"⟩
abbrev cX5_copyFrom : ByteArray := prog_7_method_2_code
def yX5_copyFrom : MethodName := ⟨RX5, "copyFrom", "(LKeypadWriter$State;)V"⟩
abbrev cX5_places : ByteArray := prog_7_method_3_code
def yX5_places : MethodName := ⟨RX5, "places", "()I"⟩
abbrev cX5_addPlace : ByteArray := prog_7_method_4_code
def yX5_addPlace : MethodName := ⟨RX5, "addPlace", "(I)V"⟩
abbrev cX5_turnLastPlace : ByteArray := prog_7_method_5_code
def yX5_turnLastPlace : MethodName := ⟨RX5, "turnLastPlace", "()V"⟩
abbrev cX5_dropLastPlace : ByteArray := prog_7_method_6_code
def yX5_dropLastPlace : MethodName := ⟨RX5, "dropLastPlace", "()V"⟩
abbrev cX5_openWritten : ByteArray := prog_7_method_7_code
def yX5_openWritten : MethodName := ⟨RX5, "openWritten", "(I)V"⟩
abbrev cX5_takeWord : ByteArray := prog_7_method_8_code
def yX5_takeWord : MethodName := ⟨RX5, "takeWord", "(J)V"⟩
def RX6 : String := "KeypadWriter$WordList"
def TX6 : u_T := fun k => match k with
  | 0 => ("KeypadWriter$WordList", "words", "[J", true)
  | 1 => ("KeypadWriter$WordList", "keys", "[J", true)
  | 2 => ("KeypadWriter$WordList", "counts", "[I", true)
  | 3 => ("KeypadWriter$WordList", "times", "[I", true)
  | 4 => ("KeypadWriter$WordList", "added", "[Z", true)
  | _ => ("KeypadWriter$WordList", "size", "I", false)
def tyX6 : Nat → FieldType := fun k => match k with
  | 0 => .array .long
  | 1 => .array .long
  | 2 => .array .int
  | 3 => .array .int
  | 4 => .array .boolean
  | _ => .int
abbrev wsX60 : List Cond := u_ws RX6 TX6 6
theorem nmX6 : ∀ a, a < 6 → ∀ b, b < 6 → a ≠ b → (TX6 a).2.1 ≠ (TX6 b).2.1 := by decide +kernel
theorem tyX6_ok : ∀ k, k < 6 → parseFieldDescriptor (TX6 k).2.2.1 = some (tyX6 k) := by decide +kernel
abbrev cX6_init : ByteArray := prog_8_method_1_code
def yX6_init : MethodName := ⟨RX6, "<init>", "()V"⟩
abbrev cX6_clear : ByteArray := prog_8_method_2_code
def yX6_clear : MethodName := ⟨RX6, "clear", "()V"⟩
abbrev cX6_copyFrom : ByteArray := prog_8_method_3_code
def yX6_copyFrom : MethodName := ⟨RX6, "copyFrom", "(LKeypadWriter$WordList;)V"⟩
abbrev cX6_has : ByteArray := prog_8_method_4_code
def yX6_has : MethodName := ⟨RX6, "has", "(I)Z"⟩
abbrev cX6_isFull : ByteArray := prog_8_method_5_code
def yX6_isFull : MethodName := ⟨RX6, "isFull", "()Z"⟩
abbrev cX6_wordAt : ByteArray := prog_8_method_6_code
def yX6_wordAt : MethodName := ⟨RX6, "wordAt", "(I)J"⟩
abbrev cX6_keysAt : ByteArray := prog_8_method_7_code
def yX6_keysAt : MethodName := ⟨RX6, "keysAt", "(I)J"⟩
abbrev cX6_countAt : ByteArray := prog_8_method_8_code
def yX6_countAt : MethodName := ⟨RX6, "countAt", "(I)I"⟩
abbrev cX6_timeAt : ByteArray := prog_8_method_9_code
def yX6_timeAt : MethodName := ⟨RX6, "timeAt", "(I)I"⟩
abbrev cX6_isAdded : ByteArray := prog_8_method_10_code
def yX6_isAdded : MethodName := ⟨RX6, "isAdded", "(I)Z"⟩
abbrev cX6_valueOf : ByteArray := prog_8_method_11_code
def yX6_valueOf : MethodName := ⟨RX6, "valueOf", "(II)I"⟩
abbrev cX6_find : ByteArray := prog_8_method_12_code
def yX6_find : MethodName := ⟨RX6, "find", "(J)I"⟩
abbrev cX6_ranksBefore : ByteArray := prog_8_method_13_code
def yX6_ranksBefore : MethodName := ⟨RX6, "ranksBefore", "(II)Z"⟩
abbrev cX6_rankOf : ByteArray := prog_8_method_14_code
def yX6_rankOf : MethodName := ⟨RX6, "rankOf", "(I)I"⟩
abbrev cX6_beginsWith : ByteArray := prog_8_method_15_code
def yX6_beginsWith : MethodName := ⟨RX6, "beginsWith", "(IJ)Z"⟩
abbrev cX6_insert : ByteArray := prog_8_method_16_code
def yX6_insert : MethodName := ⟨RX6, "insert", "(JIIZ)V"⟩
abbrev cX6_remove : ByteArray := prog_8_method_17_code
def yX6_remove : MethodName := ⟨RX6, "remove", "(I)V"⟩
abbrev cX6_countUse : ByteArray := prog_8_method_18_code
def yX6_countUse : MethodName := ⟨RX6, "countUse", "(JI)V"⟩
abbrev cX6_lastAdded : ByteArray := prog_8_method_19_code
def yX6_lastAdded : MethodName := ⟨RX6, "lastAdded", "()I"⟩
abbrev cX6_ageAllBut : ByteArray := prog_8_method_20_code
def yX6_ageAllBut : MethodName := ⟨RX6, "ageAllBut", "(J)V"⟩
abbrev cX6_stepsTo : ByteArray := prog_8_method_21_code
def yX6_stepsTo : MethodName := ⟨RX6, "stepsTo", "(I)I"⟩
abbrev cX6_guessesFor : ByteArray := prog_8_method_22_code
def yX6_guessesFor : MethodName := ⟨RX6, "guessesFor", "(I)I"⟩
abbrev cX6_tapsFor : ByteArray := prog_8_method_23_code
def yX6_tapsFor : MethodName := ⟨RX6, "tapsFor", "(I)I"⟩
abbrev cX6_clashes : ByteArray := prog_8_method_24_code
def yX6_clashes : MethodName := ⟨RX6, "clashes", "()I"⟩
abbrev cX6_sharesKeys : ByteArray := prog_8_method_25_code
def yX6_sharesKeys : MethodName := ⟨RX6, "sharesKeys", "(I)Z"⟩
abbrev cX6_savingOfAll : ByteArray := prog_8_method_26_code
def yX6_savingOfAll : MethodName := ⟨RX6, "savingOfAll", "()D"⟩
def RX7 : String := "KeypadWriter$WrittenText"
def TX7 : u_T := fun k => match k with
  | 0 => ("KeypadWriter$WrittenText", "words", "[J", true)
  | _ => ("KeypadWriter$WrittenText", "size", "I", false)
def tyX7 : Nat → FieldType := fun k => match k with
  | 0 => .array .long
  | _ => .int
abbrev wsX70 : List Cond := u_ws RX7 TX7 2
theorem nmX7 : ∀ a, a < 2 → ∀ b, b < 2 → a ≠ b → (TX7 a).2.1 ≠ (TX7 b).2.1 := by decide +kernel
theorem tyX7_ok : ∀ k, k < 2 → parseFieldDescriptor (TX7 k).2.2.1 = some (tyX7 k) := by decide +kernel
abbrev cX7_init : ByteArray := prog_9_method_1_code
def yX7_init : MethodName := ⟨RX7, "<init>", "()V"⟩
abbrev cX7_copyFrom : ByteArray := prog_9_method_2_code
def yX7_copyFrom : MethodName := ⟨RX7, "copyFrom", "(LKeypadWriter$WrittenText;)V"⟩
abbrev cX7_has : ByteArray := prog_9_method_3_code
def yX7_has : MethodName := ⟨RX7, "has", "(I)Z"⟩
abbrev cX7_wordAt : ByteArray := prog_9_method_4_code
def yX7_wordAt : MethodName := ⟨RX7, "wordAt", "(I)J"⟩
abbrev cX7_addWord : ByteArray := prog_9_method_5_code
def yX7_addWord : MethodName := ⟨RX7, "addWord", "(J)V"⟩
abbrev cX7_replace : ByteArray := prog_9_method_6_code
def yX7_replace : MethodName := ⟨RX7, "replace", "(IJ)V"⟩
abbrev cX7_remove : ByteArray := prog_9_method_7_code
def yX7_remove : MethodName := ⟨RX7, "remove", "(I)V"⟩
def RX8 : String := "KeypadWriter"
def TX8 : u_T := fun k => match k with
  | 0 => ("KeypadWriter", "listText", "LKeypadWriter$ListText;", true)
  | 1 => ("KeypadWriter", "listRead", "LKeypadWriter$WordList;", true)
  | 2 => ("KeypadWriter", "state", "LKeypadWriter$State;", true)
  | 3 => ("KeypadWriter", "saved", "LKeypadWriter$SavedStates;", true)
  | _ => ("KeypadWriter", "candidates", "LKeypadWriter$Candidates;", true)
def tyX8 : Nat → FieldType := fun k => match k with
  | 0 => .object "KeypadWriter$ListText"
  | 1 => .object "KeypadWriter$WordList"
  | 2 => .object "KeypadWriter$State"
  | 3 => .object "KeypadWriter$SavedStates"
  | _ => .object "KeypadWriter$Candidates"
abbrev wsX80 : List Cond := u_ws RX8 TX8 5
theorem nmX8 : ∀ a, a < 5 → ∀ b, b < 5 → a ≠ b → (TX8 a).2.1 ≠ (TX8 b).2.1 := by decide +kernel
theorem tyX8_ok : ∀ k, k < 5 → parseFieldDescriptor (TX8 k).2.2.1 = some (tyX8 k) := by decide +kernel
abbrev cX8_init : ByteArray := prog_1_method_1_code
def yX8_init : MethodName := ⟨RX8, "<init>", "()V"⟩
abbrev cX8_append : ByteArray := prog_1_method_2_code
def yX8_append : MethodName := ⟨RX8, "append", "(I)I"⟩
abbrev cX8_load : ByteArray := prog_1_method_4_code
def yX8_load : MethodName := ⟨RX8, "load", "()I"⟩
abbrev cX8_setWays : ByteArray := prog_1_method_5_code
def yX8_setWays : MethodName := ⟨RX8, "setWays", "(ZI)I"⟩
abbrev cX8_word : ByteArray := prog_1_method_6_code
def yX8_word : MethodName := ⟨RX8, "word", "(II)I"⟩
abbrev cX8_letter : ByteArray := prog_1_method_7_code
def yX8_letter : MethodName := ⟨RX8, "letter", "(II)I"⟩
abbrev cX8_press : ByteArray := prog_1_method_8_code
def yX8_press : MethodName := ⟨RX8, "press", "(I)I"⟩
abbrev cX8_pause : ByteArray := prog_1_method_9_code
def yX8_pause : MethodName := ⟨RX8, "pause", "()I"⟩
abbrev cX8_mode : ByteArray := prog_1_method_10_code
def yX8_mode : MethodName := ⟨RX8, "mode", "(Z)I"⟩
abbrev cX8_next : ByteArray := prog_1_method_11_code
def yX8_next : MethodName := ⟨RX8, "next", "()I"⟩
abbrev cX8_erase : ByteArray := prog_1_method_12_code
def yX8_erase : MethodName := ⟨RX8, "erase", "()I"⟩
abbrev cX8_accept : ByteArray := prog_1_method_13_code
def yX8_accept : MethodName := ⟨RX8, "accept", "()I"⟩
abbrev cX8_open : ByteArray := prog_1_method_14_code
def yX8_open : MethodName := ⟨RX8, "open", "(I)I"⟩
abbrev cX8_setting : ByteArray := prog_1_method_15_code
def yX8_setting : MethodName := ⟨RX8, "setting", "(I)I"⟩
abbrev cX8_display : ByteArray := prog_1_method_17_code
def yX8_display : MethodName := ⟨RX8, "display", "(I)I"⟩
abbrev cX8_candidate : ByteArray := prog_1_method_18_code
def yX8_candidate : MethodName := ⟨RX8, "candidate", "(I)I"⟩
abbrev cX8_written : ByteArray := prog_1_method_19_code
def yX8_written : MethodName := ⟨RX8, "written", "(II)I"⟩
abbrev cX8_steps : ByteArray := prog_1_method_20_code
def yX8_steps : MethodName := ⟨RX8, "steps", "(I)I"⟩
abbrev cX8_presses : ByteArray := prog_1_method_21_code
def yX8_presses : MethodName := ⟨RX8, "presses", "(IZ)I"⟩
abbrev cX8_clashing : ByteArray := prog_1_method_22_code
def yX8_clashing : MethodName := ⟨RX8, "clashing", "()I"⟩
abbrev cX8_saving : ByteArray := prog_1_method_23_code
def yX8_saving : MethodName := ⟨RX8, "saving", "()D"⟩
abbrev cX8_shortest : ByteArray := prog_1_method_24_code
def yX8_shortest : MethodName := ⟨RX8, "shortest", "(I)I"⟩
abbrev cX8_undo : ByteArray := prog_1_method_25_code
def yX8_undo : MethodName := ⟨RX8, "undo", "()I"⟩
abbrev cX8_digest : ByteArray := prog_1_method_26_code
def yX8_digest : MethodName := ⟨RX8, "digest", "()J"⟩
abbrev cX8_mixedWord : ByteArray := prog_1_method_27_code
def yX8_mixedWord : MethodName := ⟨RX8, "mixedWord", "(JI)J"⟩
abbrev cX8_mixedLetters : ByteArray := prog_1_method_28_code
def yX8_mixedLetters : MethodName := ⟨RX8, "mixedLetters", "(JJ)J"⟩
abbrev cX8_mixed : ByteArray := prog_1_method_29_code
def yX8_mixed : MethodName := ⟨RX8, "mixed", "(JI)J"⟩
abbrev cX8_settingOf : ByteArray := prog_1_method_30_code
def yX8_settingOf : MethodName := ⟨RX8, "settingOf", "(I)I"⟩
abbrev cX8_placeValue : ByteArray := prog_1_method_31_code
def yX8_placeValue : MethodName := ⟨RX8, "placeValue", "(I)I"⟩
abbrev cX8_displayed : ByteArray := prog_1_method_32_code
def yX8_displayed : MethodName := ⟨RX8, "displayed", "()J"⟩
def RX9 : String := "KeypadWriterModel"
def TX9 : u_T := fun k => match k with
  | _ => ("", "", "", false)
def tyX9 : Nat → FieldType := fun k => match k with
  | _ => .int
abbrev wsX90 : List Cond := u_ws RX9 TX9 0
theorem nmX9 : ∀ a, a < 0 → ∀ b, b < 0 → a ≠ b → (TX9 a).2.1 ≠ (TX9 b).2.1 := by decide +kernel
theorem tyX9_ok : ∀ k, k < 0 → parseFieldDescriptor (TX9 k).2.2.1 = some (tyX9 k) := by decide +kernel
def RJ9 : String := "java/lang/Math"
def TJ9 : u_T := fun k => match k with
  | _ => ("", "", "", false)
def tyJ9 : Nat → FieldType := fun k => match k with
  | _ => .int
abbrev wsJ90 : List Cond := u_ws RJ9 TJ9 0
theorem nmJ9 : ∀ a, a < 0 → ∀ b, b < 0 → a ≠ b → (TJ9 a).2.1 ≠ (TJ9 b).2.1 := by decide +kernel
theorem tyJ9_ok : ∀ k, k < 0 → parseFieldDescriptor (TJ9 k).2.2.1 = some (tyJ9 k) := by decide +kernel
abbrev cJ9_min_7cf53 : ByteArray := prog_16_method_69_code
def yJ9_min_7cf53 : MethodName := ⟨RJ9, "min", "(II)I"⟩
def RJ0 : String := "java/lang/String"
def TJ0 : u_T := fun k => match k with
  | _ => ("", "", "", false)
def tyJ0 : Nat → FieldType := fun k => match k with
  | _ => .int
abbrev wsJ00 : List Cond := u_ws RJ0 TJ0 0
theorem nmJ0 : ∀ a, a < 0 → ∀ b, b < 0 → a ≠ b → (TJ0 a).2.1 ≠ (TJ0 b).2.1 := by decide +kernel
theorem tyJ0_ok : ∀ k, k < 0 → parseFieldDescriptor (TJ0 k).2.2.1 = some (tyJ0 k) := by decide +kernel
def RJ10 : String := "java/lang/System"
def TJ10 : u_T := fun k => match k with
  | _ => ("", "", "", false)
def tyJ10 : Nat → FieldType := fun k => match k with
  | _ => .int
abbrev wsJ100 : List Cond := u_ws RJ10 TJ10 0
theorem nmJ10 : ∀ a, a < 0 → ∀ b, b < 0 → a ≠ b → (TJ10 a).2.1 ≠ (TJ10 b).2.1 := by decide +kernel
theorem tyJ10_ok : ∀ k, k < 0 → parseFieldDescriptor (TJ10 k).2.2.1 = some (tyJ10 k) := by decide +kernel
def RL : String := "KeypadWriterLaw"
abbrev cL_cell : ByteArray := method_2_code
def yL_cell : MethodName := ⟨RL, "cell", "([II)I"⟩
abbrev cL_up : ByteArray := method_3_code
def yL_up : MethodName := ⟨RL, "up", "(II)I"⟩
abbrev cL_loads : ByteArray := method_4_code
def yL_loads : MethodName := ⟨RL, "loads", "(LKeypadWriter;LKeypadWriter;[II)Z"⟩
abbrev cL_item : ByteArray := method_5_code
def yL_item : MethodName := ⟨RL, "item", "(LKeypadWriter;[II)Z"⟩
abbrev cL_isStep : ByteArray := method_6_code
def yL_isStep : MethodName := ⟨RL, "isStep", "(LKeypadWriter;LKeypadWriter;I)Z"⟩
abbrev cL_isWord : ByteArray := method_7_code
def yL_isWord : MethodName := ⟨RL, "isWord", "(LKeypadWriter;ILKeypadWriter;I)Z"⟩
abbrev cL_areAlike : ByteArray := method_8_code
def yL_areAlike : MethodName := ⟨RL, "areAlike", "(LKeypadWriter;LKeypadWriter;)Z"⟩
abbrev cL_isSound : ByteArray := method_9_code
def yL_isSound : MethodName := ⟨RL, "isSound", "(LKeypadWriter;)Z"⟩
abbrev cL_law : ByteArray := code
def yL_law : MethodName := ⟨RL, "law", "([I)Z"⟩
abbrev vwCl : List vw_C := [(RX0, TX0, 2), (RX2, TX2, 3), (RX3, TX3, 2), (RX5, TX5, 10), (RX6, TX6, 6), (RX7, TX7, 2), (RX8, TX8, 5)]
